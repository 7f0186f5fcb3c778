/-! 10: the relation at a turn; new, set, setData, run, reset -/
def i_Rel (k : Nat) (u : SX) (v : SY) : Prop := ∃ d, d ≤ 20 * k ∧ sm_R d u v
theorem i_up {k : Nat} {u : SX} {v : SY} (h : i_Rel k u v) : i_Rel (k + 5) u v := by
  obtain ⟨d, hd, R⟩ := h
  exact ⟨d, by omega, R⟩
theorem ir_0 {k : Nat} {u : SX} {v : SY} {d : Nat} (hd : d ≤ 20 * k) (R : sm_R d u v) : i_Rel (k + 5) u v := ⟨d, by omega, R⟩
theorem v0_13 : sm_Wd 13 0 0 0 := ⟨Or.inl ⟨rfl, by decide⟩, Or.inl ⟨rfl, by decide +kernel⟩⟩
theorem v0_22 : sm_Wd 22 (0 * 1024 + 0 * 256 + 0) 0 0 := ⟨Or.inr ⟨rfl, by decide⟩, Or.inl ⟨rfl, by decide +kernel⟩⟩
theorem v0_val (s : Nat) : sm_val (fun _ => 0) (nI 0) s = 0 := by
  unfold sm_val
  split
  · rfl
  split
  · rfl
  · rfl
theorem i_vc0 : wpX_init (fun u => wpY_init (fun v => i_Rel 0 u v)) := by
  refine ⟨0, by omega, 0, 0, 0, fun _ => 0, fun _ => 0, fun _ => 0, fun _ => 0, fun _ => 0, fun _ => 0, fun _ => 0, fun _ => 0, fun _ => 0, fun _ => 0, fun _ => 0, fun _ => 0, rfl, rfl, by decide, by decide, by decide, Or.inl rfl, ?_, fun _ _ => rfl, fun _ _ => ⟨0, by decide, rfl⟩, fun _ _ => ⟨0, 0, 0, rfl, rfl, rfl, v0_13⟩, fun _ _ => ⟨0, 0, 0, 0, 0, by decide, by decide, by decide, rfl, rfl, rfl, rfl, rfl, v0_22⟩⟩
  intro s _ j _ _
  exact (v0_val s).symm
/-! ranges -/
section RANGE
theorem xi_no {post : Int32 → Prop} {x a b : Int32} (h : x < a ∨ b < x) (hp : post 0) : wpX_isWithin post x a b :=
  ⟨fun _ => hp, fun z => ⟨fun _ => hp, fun w => absurd h (fun q => q.elim z w)⟩⟩
theorem xi_yes {post : Int32 → Prop} {x a b : Int32} (h : ¬ (x < a ∨ b < x)) (hp : post 1) : wpX_isWithin post x a b :=
  ⟨fun z => absurd (Or.inl z) h, fun _ => ⟨fun w => absurd (Or.inr w) h, fun _ => hp⟩⟩
theorem y_no {c1 c2 A B : Prop} (h : c1 ∨ c2) (a : A) : (c1 → A) ∧ (¬ c1 → ((c2 → A) ∧ (¬ c2 → B))) :=
  ⟨fun _ => a, fun z => ⟨fun _ => a, fun w => absurd h (fun q => q.elim z w)⟩⟩
theorem y_yes {c1 c2 A A' B : Prop} (h : ¬ (c1 ∨ c2)) (b : B) : (c1 → A) ∧ (¬ c1 → ((c2 → A') ∧ (¬ c2 → B))) :=
  ⟨fun z => absurd (Or.inl z) h, fun _ => ⟨fun w => absurd (Or.inr w) h, fun _ => b⟩⟩
theorem in_j {x : Int32} {n : Nat} (hn : n < 2 ^ 31) (h : ¬ (x < 0 ∨ nI n < x)) : ∃ j, j ≤ n ∧ x = nI j := by
  obtain ⟨j, hj, rfl⟩ := nI_of (x := x) (fun z => h (Or.inl z))
  refine ⟨j, ?_, rfl⟩
  have q : ¬ nI n < nI j := fun z => h (Or.inr z)
  rw [nI_ltI hn hj] at q
  omega
theorem in_j1 {x : Int32} {n : Nat} (hn : n < 2 ^ 31) (h : ¬ (x < 1 ∨ nI n < x)) : ∃ j, 1 ≤ j ∧ j ≤ n ∧ x = nI j := by
  have h0 : ¬ x < 0 := fun z => h (Or.inl (Int32.lt_trans z (by decide)))
  obtain ⟨j, hj, rfl⟩ := in_j hn (fun z => z.elim h0 (fun w => h (Or.inr w)))
  refine ⟨j, ?_, hj, rfl⟩
  have q : ¬ nI j < nI 1 := fun z => h (Or.inl z)
  rw [nI_ltI (by omega) (by decide)] at q
  omega
end RANGE
section SETS
variable {oc hl tn : Int32} {cp hc cw sw ob : Nat → Int32} {a sh hl2 dn : Int32} {rg ce op tg nu pp sp ht : Nat → Int32}
def rs_bad (v1 v2 v3 v4 : Int32) : Prop := (v1 < 0 ∨ 31 < v1) ∨ (v2 < 0 ∨ 13 < v2) ∨ (v3 < 0 ∨ 3 < v3) ∨ (v4 < 0 ∨ 255 < v4)
theorem xs_set0 (post : Int32 → SX → Prop) {v1 v2 v3 v4 : Int32} (bad : rs_bad v1 v2 v3 v4) (h : post 0 (oc, hl, tn, cp, hc, cw, sw, ob)) : wpX_set post (oc, hl, tn, cp, hc, cw, sw, ob) v1 v2 v3 v4 := by
  unfold wpX_set
  by_cases b1 : v1 < 0 ∨ 31 < v1
  · exact xi_no b1 (br_t rfl h)
  refine xi_yes b1 (br_f xw_1 ?_)
  by_cases b2 : v2 < 0 ∨ 13 < v2
  · exact xi_no b2 (br_t rfl h)
  refine xi_yes b2 (br_f xw_1 ?_)
  by_cases b3 : v3 < 0 ∨ 3 < v3
  · exact xi_no b3 (br_t rfl h)
  refine xi_yes b3 (br_f xw_1 ?_)
  have b4 : v4 < 0 ∨ 255 < v4 := by
    rcases bad with z | z | z | z
    · exact absurd z b1
    · exact absurd z b2
    · exact absurd z b3
    · exact z
  exact xi_no b4 (br_t rfl h)
theorem ys_set0 (post : Int32 → SY → Prop) {v1 v2 v3 v4 : Int32} (bad : rs_bad v1 v2 v3 v4) (h : post 0 (a, sh, hl2, dn, rg, ce, op, tg, nu, pp, sp, ht)) : wpY_set post (a, sh, hl2, dn, rg, ce, op, tg, nu, pp, sp, ht) v1 v2 v3 v4 := by
  unfold wpY_set
  by_cases b1 : v1 < 0 ∨ 31 < v1
  · exact y_no b1 (br_t rfl h)
  refine y_yes b1 (br_f xw_1 ?_)
  by_cases b2 : v2 < 0 ∨ 13 < v2
  · exact y_no b2 h
  refine y_yes b2 ?_
  by_cases b3 : v3 < 0 ∨ 3 < v3
  · exact y_no b3 (br_t rfl h)
  refine y_yes b3 (br_f xw_1 ?_)
  have b4 : v4 < 0 ∨ 255 < v4 := by
    rcases bad with z | z | z | z
    · exact absurd z b1
    · exact absurd z b2
    · exact absurd z b3
    · exact z
  exact y_no b4 (br_t rfl h)
theorem rs_or {on t nn : Nat} (h2 : t < 4) (h3 : nn < 256) : (on * 1024 ||| t * 256) ||| nn = on * 1024 + t * 256 + nn := by
  have e1 := Nat.two_pow_add_eq_or_of_lt (i := 10) (b := t * 256) (by omega) on
  have e2 := Nat.two_pow_add_eq_or_of_lt (i := 8) (b := nn) (by omega) (on * 4 + t)
  rw [show on * 1024 = 2 ^ 10 * on by omega, ← e1, show 2 ^ 10 * on + t * 256 = 2 ^ 8 * (on * 4 + t) by omega, ← e2]
theorem xs_set (post : Int32 → SX → Prop) {q on t nn : Nat} (hq : q ≤ 31) (h1 : on ≤ 13) (h2 : t ≤ 3) (h3 : nn ≤ 255) (b1 : ¬ (nI q < 0 ∨ 31 < nI q)) (b2 : ¬ (nI on < 0 ∨ 13 < nI on)) (b3 : ¬ (nI t < 0 ∨ 3 < nI t)) (b4 : ¬ (nI nn < 0 ∨ 255 < nI nn)) (h : post 1 (oc, hl, tn, cp, hc, cw, upd sw q (nI (sm_en 22 (on * 1024 + t * 256 + nn))), ob)) : wpX_set post (oc, hl, tn, cp, hc, cw, sw, ob) (nI q) (nI on) (nI t) (nI nn) := by
  have e : nI on <<< ((10 : Int32) &&& 31) ||| nI t <<< ((8 : Int32) &&& 31) ||| nI nn = nI (on * 1024 + t * 256 + nn) := by
    rw [pk_shlN _ 10 (by decide) (by omega), pk_shlN _ 8 (by decide) (by omega), nx_or, nx_or]
    exact congrArg nI (rs_or (by omega) (by omega))
  unfold wpX_set
  refine xi_yes b1 (br_f xw_1 (xi_yes b2 (br_f xw_1 (xi_yes b3 (br_f xw_1 (xi_yes b4 (br_f xw_1 ?_)))))))
  rw [e]
  exact xw_encoded (b := 22) _ (Or.inr rfl) (by omega) ⟨vp_in_nI (by omega) (by decide), nm_r (by rw [nI_clamp (by omega)]) h⟩
theorem ys_set (post : Int32 → SY → Prop) {q on t nn : Nat} (hq : q ≤ 31) (b1 : ¬ (nI q < 0 ∨ 31 < nI q)) (b2 : ¬ (nI on < 0 ∨ 13 < nI on)) (b3 : ¬ (nI t < 0 ∨ 3 < nI t)) (b4 : ¬ (nI nn < 0 ∨ 255 < nI nn)) (h : post 1 (a, sh, hl2, dn, rg, ce, upd op q (nI on), upd tg q (nI t), upd nu q (nI nn), pp, upd sp q 0, ht)) : wpY_set post (a, sh, hl2, dn, rg, ce, op, tg, nu, pp, sp, ht) (nI q) (nI on) (nI t) (nI nn) := by
  have c (f : Nat → Int32) (x : Int32) : upd f (nI q).toNatClampNeg x = upd f q x := by rw [nI_clamp (by omega)]
  have i : vp_in (nI q) 32 := vp_in_nI (by omega) (by decide)
  unfold wpY_set
  refine y_yes b1 (br_f xw_1 (y_yes b2 (y_yes b3 (br_f xw_1 (y_yes b4 (br_f xw_1 ⟨i, nm_r (c _ _) ⟨i, nm_r (c _ _) ⟨i, nm_r (c _ _) ⟨vp_in_nI (by omega) (by decide), nm_r (e' := upd sp q 0) ?_ h⟩⟩⟩⟩))))))
  rw [c, y_b0]
def rd_bad (v1 v2 : Int32) : Prop := (v1 < 0 ∨ 15 < v1) ∨ (v2 < 0 ∨ 255 < v2)
theorem xs_dat0 (post : Int32 → SX → Prop) {v1 v2 : Int32} (bad : rd_bad v1 v2) (h : post 0 (oc, hl, tn, cp, hc, cw, sw, ob)) : wpX_setData post (oc, hl, tn, cp, hc, cw, sw, ob) v1 v2 := by
  unfold wpX_setData
  by_cases b1 : v1 < 0 ∨ 15 < v1
  · exact xi_no b1 (br_t rfl h)
  refine xi_yes b1 (br_f xw_1 ?_)
  exact xi_no (bad.elim (fun z => absurd z b1) id) (br_t rfl h)
theorem ys_dat0 (post : Int32 → SY → Prop) {v1 v2 : Int32} (bad : rd_bad v1 v2) (h : post 0 (a, sh, hl2, dn, rg, ce, op, tg, nu, pp, sp, ht)) : wpY_setData post (a, sh, hl2, dn, rg, ce, op, tg, nu, pp, sp, ht) v1 v2 := by
  unfold wpY_setData
  by_cases b1 : v1 < 0 ∨ 15 < v1
  · exact y_no b1 (br_t rfl h)
  refine y_yes b1 (br_f xw_1 ?_)
  exact y_no (bad.elim (fun z => absurd z b1) id) (br_t rfl h)
theorem xs_dat (post : Int32 → SX → Prop) {c v : Nat} (hc16 : c ≤ 15) (hv : v ≤ 255) (b1 : ¬ (nI c < 0 ∨ 15 < nI c)) (b2 : ¬ (nI v < 0 ∨ 255 < nI v)) (h : post 1 (oc, hl, tn, cp, hc, upd cw c (nI (sm_en 13 v)), sw, ob)) : wpX_setData post (oc, hl, tn, cp, hc, cw, sw, ob) (nI c) (nI v) := by
  unfold wpX_setData
  refine xi_yes b1 (br_f xw_1 (xi_yes b2 (br_f xw_1 ?_)))
  exact xw_encoded (b := 13) _ (Or.inl rfl) (by omega) ⟨vp_in_nI (by omega) (by decide), nm_r (by rw [nI_clamp (by omega)]) h⟩
theorem ys_dat (post : Int32 → SY → Prop) {c v : Nat} (hc16 : c ≤ 15) (b1 : ¬ (nI c < 0 ∨ 15 < nI c)) (b2 : ¬ (nI v < 0 ∨ 255 < nI v)) (h : post 1 (a, sh, hl2, dn, rg, upd ce c (nI v), op, tg, nu, pp, upd sp (32 + c) 0, ht)) : wpY_setData post (a, sh, hl2, dn, rg, ce, op, tg, nu, pp, sp, ht) (nI c) (nI v) := by
  have e : 32 + nI c = nI (32 + c) := nI_add 32 c
  unfold wpY_setData
  refine y_yes b1 (br_f xw_1 (y_yes b2 (br_f xw_1 ⟨vp_in_nI (by omega) (by decide), nm_r (by rw [nI_clamp (by omega)]) ⟨?_, nm_r (e' := upd sp (32 + c) 0) ?_ h⟩⟩)))
  · rw [e]
    exact vp_in_nI (by omega) (by decide)
  · rw [e, nI_clamp (by omega), y_b0]
end SETS
theorem i_vc_set {k : Nat} {u : SX} {v : SY} (I : i_Rel k u v) (hk : k + 5 ≤ 2560) (v1 : Int32) (v2 : Int32) (v3 : Int32) (v4 : Int32) : wpX_set (fun r u' => wpY_set (fun r' v' => r' = r ∧ i_Rel (k + 5) u' v') v v1 v2 v3 v4) u v1 v2 v3 v4 := by
  obtain ⟨d, hd, p, o, hl, cp, hc, cw, sw, ob, rg, ce, op, tg, nu, sp, ht, rfl, rfl, F⟩ := I
  by_cases bad : rs_bad v1 v2 v3 v4
  · exact xs_set0 _ bad (ys_set0 _ bad ⟨rfl, ir_0 hd ⟨p, o, hl, cp, hc, cw, sw, ob, rg, ce, op, tg, nu, sp, ht, rfl, rfl, F⟩⟩)
  · have b1 : ¬ (v1 < 0 ∨ 31 < v1) := fun z => bad (Or.inl z)
    have b2 : ¬ (v2 < 0 ∨ 13 < v2) := fun z => bad (Or.inr (Or.inl z))
    have b3 : ¬ (v3 < 0 ∨ 3 < v3) := fun z => bad (Or.inr (Or.inr (Or.inl z)))
    have b4 : ¬ (v4 < 0 ∨ 255 < v4) := fun z => bad (Or.inr (Or.inr (Or.inr z)))
    obtain ⟨q, hq, rfl⟩ := in_j (n := 31) (by decide) b1
    obtain ⟨on, h1, rfl⟩ := in_j (n := 13) (by decide) b2
    obtain ⟨t, h2, rfl⟩ := in_j (n := 3) (by decide) b3
    obtain ⟨nn, h3, rfl⟩ := in_j (n := 255) (by decide) b4
    obtain ⟨f1, f2, f3, f4, f5, f6, f7, S⟩ := F
    exact xs_set _ hq h1 h2 h3 b1 b2 b3 b4 (ys_set _ hq b1 b2 b3 b4 ⟨rfl, ir_0 hd ⟨p, o, hl, cp, hc, cw, _, ob, rg, ce, _, _, _, _, ht, rfl, rfl, f1, f2, f3, f4, f5, f6, f7, ws_set S (by omega) (by omega) (by omega) (by omega)⟩⟩)
theorem i_vc_setData {k : Nat} {u : SX} {v : SY} (I : i_Rel k u v) (hk : k + 5 ≤ 2560) (v1 : Int32) (v2 : Int32) : wpX_setData (fun r u' => wpY_setData (fun r' v' => r' = r ∧ i_Rel (k + 5) u' v') v v1 v2) u v1 v2 := by
  obtain ⟨d, hd, p, o, hl, cp, hc, cw, sw, ob, rg, ce, op, tg, nu, sp, ht, rfl, rfl, F⟩ := I
  by_cases bad : rd_bad v1 v2
  · exact xs_dat0 _ bad (ys_dat0 _ bad ⟨rfl, ir_0 hd ⟨p, o, hl, cp, hc, cw, sw, ob, rg, ce, op, tg, nu, sp, ht, rfl, rfl, F⟩⟩)
  · have b1 : ¬ (v1 < 0 ∨ 15 < v1) := fun z => bad (Or.inl z)
    have b2 : ¬ (v2 < 0 ∨ 255 < v2) := fun z => bad (Or.inr z)
    obtain ⟨c, h1, rfl⟩ := in_j (n := 15) (by decide) b1
    obtain ⟨x, h2, rfl⟩ := in_j (n := 255) (by decide) b2
    obtain ⟨f1, f2, f3, f4, f5, f6, f7, S⟩ := F
    exact xs_dat _ h1 h2 b1 b2 (ys_dat _ h1 b1 b2 ⟨rfl, ir_0 hd ⟨p, o, hl, cp, hc, _, sw, ob, rg, _, op, tg, nu, _, ht, rfl, rfl, f1, f2, f3, f4, f5, f6, f7, ws_store S (by omega) (by omega)⟩⟩)
