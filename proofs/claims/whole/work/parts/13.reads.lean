/-! 13: the readers -/
theorem i_vc_register {k : Nat} {u : SX} {v : SY} (I : i_Rel k u v) (hk : k + 5 ≤ 2560) (v1 : Int32) : wpX_register (fun r => wpY_register (fun r' => r' = r ∧ i_Rel (k + 5) u v) v v1) u v1 := by
  obtain ⟨d, hd, R⟩ := I
  have R0 := R
  obtain ⟨p, o, hl, cp, hc, cw, sw, ob, rg, ce, op, tg, nu, sp, ht, rfl, rfl, f1, f2, f3, f4, f5, f6, f7, S⟩ := R0
  unfold wpX_register wpY_register
  by_cases b1 : v1 < 0 ∨ 3 < v1
  · exact xi_no b1 (br_t rfl (y_no b1 (br_t rfl ⟨rfl, ir_0 hd R⟩)))
  obtain ⟨s, hs, rfl⟩ := in_j (n := 3) (by decide) b1
  refine xi_yes b1 (br_f xw_1 (xv_voted _ (by omega) (f5 s (by omega)) ?_))
  rw [sm_val_r (by omega)]
  exact y_yes b1 (br_f xw_1 ⟨vp_in_nI (by omega) (by decide), by rw [nI_clamp (by omega)], ir_0 hd R⟩)
theorem i_vc_place {k : Nat} {u : SX} {v : SY} (I : i_Rel k u v) (hk : k + 5 ≤ 2560) : wpX_place (fun r => wpY_place (fun r' => r' = r ∧ i_Rel (k + 5) u v) v) u := by
  obtain ⟨d, hd, R⟩ := I
  have R0 := R
  obtain ⟨p, o, hl, cp, hc, cw, sw, ob, rg, ce, op, tg, nu, sp, ht, rfl, rfl, f1, f2, f3, f4, f5, f6, f7, S⟩ := R0
  unfold wpX_place wpY_place
  exact xv_voted (s := 4) _ (by decide) (f5 4 (by decide)) ⟨rfl, ir_0 hd R⟩
theorem i_vc_data {k : Nat} {u : SX} {v : SY} (I : i_Rel k u v) (hk : k + 5 ≤ 2560) (v1 : Int32) : wpX_data (fun r => wpY_data (fun r' => r' = r ∧ i_Rel (k + 5) u v) v v1) u v1 := by
  obtain ⟨d, hd, R⟩ := I
  have R0 := R
  obtain ⟨p, o, hl, cp, hc, cw, sw, ob, rg, ce, op, tg, nu, sp, ht, rfl, rfl, f1, f2, f3, f4, f5, f6, f7, S⟩ := R0
  unfold wpX_data wpY_data
  by_cases b1 : v1 < 0 ∨ 15 < v1
  · exact xi_no b1 (br_t rfl (y_no b1 (br_t rfl ⟨rfl, ir_0 hd R⟩)))
  obtain ⟨c, hc16, rfl⟩ := in_j (n := 15) (by decide) b1
  obtain ⟨wn, vn, sn, ew, ev, es, W⟩ := S.1 c (by omega)
  have ec : cw (nI c).toNatClampNeg = nI wn := by rw [nI_clamp (by omega), ew]
  refine xi_yes b1 (br_f xw_1 ⟨vp_in_nI (by omega) (by decide), ?_⟩)
  rw [ec]
  refine xw_decW (b := 13) _ W ?_
  exact y_yes b1 (br_f xw_1 ⟨vp_in_nI (by omega) (by decide), by rw [nI_clamp (by omega), ev], ir_0 hd R⟩)
theorem i_vc_outs {k : Nat} {u : SX} {v : SY} (I : i_Rel k u v) (hk : k + 5 ≤ 2560) : wpX_outs (fun r => wpY_outs (fun r' => r' = r ∧ i_Rel (k + 5) u v) v) u := by
  obtain ⟨d, hd, R⟩ := I
  have R0 := R
  obtain ⟨p, o, hl, cp, hc, cw, sw, ob, rg, ce, op, tg, nu, sp, ht, rfl, rfl, F⟩ := R0
  exact ⟨rfl, ir_0 hd R⟩
theorem i_vc_out {k : Nat} {u : SX} {v : SY} (I : i_Rel k u v) (hk : k + 5 ≤ 2560) (v1 : Int32) : wpX_out (fun r => wpY_out (fun r' => r' = r ∧ i_Rel (k + 5) u v) v v1) u v1 := by
  obtain ⟨d, hd, R⟩ := I
  have R0 := R
  obtain ⟨p, o, hl, cp, hc, cw, sw, ob, rg, ce, op, tg, nu, sp, ht, rfl, rfl, f1, f2, f3, f4, f5, f6, f7, S⟩ := R0
  unfold wpX_out wpY_out
  by_cases b0 : v1 < 0
  · exact xi_no (Or.inl b0) (br_t rfl (br_t b0 ⟨rfl, ir_0 hd R⟩))
  obtain ⟨j, hj, rfl⟩ := nI_of b0
  by_cases z : o = 0
  · subst z
    have b1 : nI 0 - 1 < nI j := Int32.lt_of_lt_of_le (by decide) (nI_pos' hj)
    exact xi_no (Or.inr b1) (br_t rfl (br_f b0 (br_t (nI_le (a := 0) (by omega) hj) ⟨rfl, ir_0 hd R⟩)))
  · have e : nI o - 1 = nI (o - 1) := pk_sub (b := 1) (by omega)
    by_cases q : j < o
    · have b1 : ¬ (nI j < 0 ∨ nI o - 1 < nI j) := by
        rw [e]
        exact fun w => w.elim b0 (nI_nlt (by omega) (by omega))
      exact xi_yes b1 (br_f xw_1 ⟨vp_in_nI (by omega) (by decide), br_f b0 (br_f (nI_ge q (by omega)) ⟨vp_in_nI (by omega) (by decide), rfl, ir_0 hd R⟩)⟩)
    · have b1 : nI o - 1 < nI j := by
        rw [e]
        exact nI_lt (by omega) hj
      exact xi_no (Or.inr b1) (br_t rfl (br_f b0 (br_t (nI_le (by omega) hj) ⟨rfl, ir_0 hd R⟩)))
theorem i_vc_stopped {k : Nat} {u : SX} {v : SY} (I : i_Rel k u v) (hk : k + 5 ≤ 2560) : wpX_stopped (fun r => wpY_stopped (fun r' => r' = r ∧ i_Rel (k + 5) u v) v) u := by
  obtain ⟨d, hd, R⟩ := I
  have R0 := R
  obtain ⟨p, o, hl, cp, hc, cw, sw, ob, rg, ce, op, tg, nu, sp, ht, rfl, rfl, f1, f2, f3, f4, f5, f6, f7, S⟩ := R0
  exact ⟨hn_01 f4, hn_01 f4, rfl, ir_0 hd R⟩
section COUNT
variable {oc hl tn : Int32} {cp hc cw sw ob : Nat → Int32} {a sh hl2 dn : Int32} {rg ce op tg nu pp sp ht : Nat → Int32}
def sm_su (f : Nat → Nat) : Nat → Nat
  | 0 => 0
  | n + 1 => sm_su f n + f n
theorem sm_su_add (f : Nat → Nat) (x : Nat) : ∀ n, sm_su f (x + n) = sm_su f x + sm_su (fun c => f (x + c)) n
  | 0 => rfl
  | n + 1 => by
    show sm_su f (x + n) + f (x + n) = sm_su f x + (sm_su (fun c => f (x + c)) n + f (x + n))
    rw [sm_su_add f x n, Nat.add_assoc]
theorem xp_32 (post : Int32 → Prop) {g : Nat → Nat} {A : Nat} (H : ∀ q, q < 32 → ∃ wn vn, sw q = nI wn ∧ sm_Wd 22 vn wn (g q)) (h : post (nI (A + sm_su g 32))) : ∀ k i n, i + k = 32 → k < n → wX_spoiled_32 post oc hl tn cp hc cw sw ob n (nI (A + sm_su g i)) (nI i) := by
  intro k
  induction k with
  | zero =>
    intro i n e hn
    obtain ⟨m, rfl⟩ : ∃ m, n = m + 1 := ⟨n - 1, by omega⟩
    obtain rfl : i = 32 := by omega
    exact br_t (by decide) h
  | succ k ih =>
    intro i n e hn
    obtain ⟨m, rfl⟩ : ∃ m, n = m + 1 := ⟨n - 1, by omega⟩
    obtain ⟨wn, vn, ew, W⟩ := H i (by omega)
    have ec : sw (nI i).toNatClampNeg = nI wn := by rw [nI_clamp (by omega), ew]
    refine br_f (nI_ge (b := 32) (by omega) (by decide)) ⟨vp_in_nI (by omega) (by decide), ?_⟩
    rw [ec]
    refine xw_parW (b := 22) _ W (nm_r (e' := nI (A + sm_su g (i + 1))) ?_ (nm_r (nI_1 i) (ih (i + 1) m (by omega) (by omega))))
    rw [nI_add, Nat.add_assoc]
    rfl
theorem xp_16 (post : Int32 → Prop) {g : Nat → Nat} (H : ∀ q, q < 16 → ∃ wn vn, cw q = nI wn ∧ sm_Wd 13 vn wn (g q)) (h : ∃ n, wX_spoiled_32 post oc hl tn cp hc cw sw ob n (nI (sm_su g 16)) 0) : ∀ k i n, i + k = 16 → k < n → wX_spoiled_4 post oc hl tn cp hc cw sw ob n (nI (sm_su g i)) (nI i) := by
  intro k
  induction k with
  | zero =>
    intro i n e hn
    obtain ⟨m, rfl⟩ : ∃ m, n = m + 1 := ⟨n - 1, by omega⟩
    obtain rfl : i = 16 := by omega
    exact br_t (by decide) h
  | succ k ih =>
    intro i n e hn
    obtain ⟨m, rfl⟩ : ∃ m, n = m + 1 := ⟨n - 1, by omega⟩
    obtain ⟨wn, vn, ew, W⟩ := H i (by omega)
    have ec : cw (nI i).toNatClampNeg = nI wn := by rw [nI_clamp (by omega), ew]
    refine br_f (nI_ge (b := 16) (by omega) (by decide)) ⟨vp_in_nI (by omega) (by decide), ?_⟩
    rw [ec]
    refine xw_parW (b := 13) _ W (nm_r (e' := nI (sm_su g (i + 1))) ?_ (nm_r (nI_1 i) (ih (i + 1) m (by omega) (by omega))))
    rw [nI_add]
    rfl
theorem yp_48 (post : Int32 → Prop) {g : Nat → Nat} (H : ∀ q, q < 48 → sp q = nI (g q) ∧ g q < 2) (h : post (nI (sm_su g 48))) : ∀ k i n, i + k = 48 → k < n → wY_spoiled_4 post a sh hl2 dn rg ce op tg nu pp sp ht n (nI (sm_su g i)) (nI i) := by
  intro k
  induction k with
  | zero =>
    intro i n e hn
    obtain ⟨m, rfl⟩ : ∃ m, n = m + 1 := ⟨n - 1, by omega⟩
    obtain rfl : i = 48 := by omega
    exact br_t (by decide) h
  | succ k ih =>
    intro i n e hn
    obtain ⟨m, rfl⟩ : ∃ m, n = m + 1 := ⟨n - 1, by omega⟩
    obtain ⟨es, h2⟩ := H i (by omega)
    have ec : sp (nI i).toNatClampNeg = nI (g i) := by rw [nI_clamp (by omega), es]
    have I := ih (i + 1) m (by omega) (by omega)
    have h01 : g i = 0 ∨ g i = 1 := by omega
    refine br_f (nI_ge (b := 48) (by omega) (by decide)) ⟨vp_in_nI (by omega) (by decide), ?_⟩
    rw [ec]
    rcases h01 with z | z
    · rw [show sm_su g (i + 1) = sm_su g i from by show sm_su g i + g i = _; rw [z]; rfl] at I
      exact br_t (by rw [z]; rfl) (nm_r (nI_1 i) I)
    · rw [show sm_su g (i + 1) = sm_su g i + 1 from by show sm_su g i + g i = _; rw [z]] at I
      exact br_f (by rw [z]; decide) (nm_r (nI_1 _) (nm_r (nI_1 i) I))
theorem xp_32s (post : Int32 → Prop) {g : Nat → Nat} {A : Nat} (H : ∀ q, q < 32 → ∃ wn vn, sw q = nI wn ∧ sm_Wd 22 vn wn (g q)) (h : post (nI (A + sm_su g 32))) : wX_spoiled_32 post oc hl tn cp hc cw sw ob 33 (nI A) 0 := by
  have i := xp_32 (oc := oc) (hl := hl) (tn := tn) (cp := cp) (hc := hc) (cw := cw) (ob := ob) post H h 32 0 33 (by omega) (by omega)
  rw [show A + sm_su g 0 = A from rfl] at i
  exact i
theorem xp_all (post : Int32 → Prop) {g f : Nat → Nat} (Hc : ∀ q, q < 16 → ∃ wn vn, cw q = nI wn ∧ sm_Wd 13 vn wn (f q)) (Hs : ∀ q, q < 32 → ∃ wn vn, sw q = nI wn ∧ sm_Wd 22 vn wn (g q)) (h : post (nI (sm_su f 16 + sm_su g 32))) : wpX_spoiled post (oc, hl, tn, cp, hc, cw, sw, ob) := by
  have i := xp_16 (oc := oc) (hl := hl) (tn := tn) (cp := cp) (hc := hc) (sw := sw) (ob := ob) post Hc ⟨33, xp_32s post Hs h⟩ 16 0 17 (by omega) (by omega)
  exact ⟨17, i⟩
theorem yp_all (post : Int32 → Prop) {g : Nat → Nat} (H : ∀ q, q < 48 → sp q = nI (g q) ∧ g q < 2) (h : post (nI (sm_su g 48))) : wpY_spoiled post (a, sh, hl2, dn, rg, ce, op, tg, nu, pp, sp, ht) := by
  have i := yp_48 (a := a) (sh := sh) (hl2 := hl2) (dn := dn) (rg := rg) (ce := ce) (op := op) (tg := tg) (nu := nu) (pp := pp) (ht := ht) post H h 48 0 49 (by omega) (by omega)
  exact ⟨49, i⟩
theorem sp_key (g : Nat → Nat) : sm_su (fun c => g (32 + c)) 16 + sm_su g 32 = sm_su g 48 := by
  rw [Nat.add_comm]
  exact (sm_su_add g 32 16).symm
end COUNT
theorem i_vc_spoiled {k : Nat} {u : SX} {v : SY} (I : i_Rel k u v) (hk : k + 5 ≤ 2560) : wpX_spoiled (fun r => wpY_spoiled (fun r' => r' = r ∧ i_Rel (k + 5) u v) v) u := by
  obtain ⟨d, hd, R⟩ := I
  have R0 := R
  obtain ⟨p, o, hl, cp, hc, cw, sw, ob, rg, ce, op, tg, nu, sp, ht, rfl, rfl, f1, f2, f3, f4, f5, f6, f7, S⟩ := R0
  have Hc : ∀ q, q < 16 → ∃ wn vn, cw q = nI wn ∧ sm_Wd 13 vn wn (sp (32 + q)).toNatClampNeg := by
    intro q hq
    obtain ⟨wn, vn, sn, ew, ev, es, W⟩ := S.1 q hq
    have h2 := sm_Wd_2 W
    rw [es, nI_clamp (by omega)]
    exact ⟨wn, vn, ew, W⟩
  have Hs : ∀ q, q < 32 → ∃ wn vn, sw q = nI wn ∧ sm_Wd 22 vn wn (sp q).toNatClampNeg := by
    intro q hq
    obtain ⟨on, t, nn, wn, sn, h1, h2, h3, e1, e2, e3, ew, es, W⟩ := S.2 q hq
    have h2 := sm_Wd_2 W
    rw [es, nI_clamp (by omega)]
    exact ⟨wn, _, ew, W⟩
  have Hy : ∀ q, q < 48 → sp q = nI (sp q).toNatClampNeg ∧ (sp q).toNatClampNeg < 2 := by
    intro q hq
    by_cases z : q < 32
    · obtain ⟨on, t, nn, wn, sn, h1, h2, h3, e1, e2, e3, ew, es, W⟩ := S.2 q z
      have h2 := sm_Wd_2 W
      rw [es, nI_clamp (by omega)]
      exact ⟨rfl, h2⟩
    · obtain ⟨wn, vn, sn, ew, ev, es, W⟩ := S.1 (q - 32) (by omega)
      rw [show 32 + (q - 32) = q by omega] at es
      have h2 := sm_Wd_2 W
      rw [es, nI_clamp (by omega)]
      exact ⟨rfl, h2⟩
  refine xp_all _ (g := fun q => (sp q).toNatClampNeg) (f := fun q => (sp (32 + q)).toNatClampNeg) Hc Hs ?_
  have key := sp_key (fun q => (sp q).toNatClampNeg)
  generalize sm_su (fun q => (sp (32 + q)).toNatClampNeg) 16 + sm_su (fun q => (sp q).toNatClampNeg) 32 = N at key ⊢
  subst key
  exact yp_all _ (g := fun q => (sp q).toNatClampNeg) Hy ⟨rfl, ir_0 hd R⟩
