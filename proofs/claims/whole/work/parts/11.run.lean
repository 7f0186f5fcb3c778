/-! 11: run and reset -/
section RUN
theorem rn_loop (n : Nat) (hn : n ≤ 100) : ∀ m c d (u : SX) (v : SY), c + m = n → sm_R d u v → d + m < 2 ^ 30 → ∃ (c' d' : Nat) (u' : SX) (v' : SY), d' ≤ d + m ∧ sm_R d' u' v' ∧
    (∀ (post : Int32 → SX → Prop) (f : Nat), m < f → post (nI c') u' → wX_run_14 post (nI n) f (nI c) u.1 u.2.1 u.2.2.1 u.2.2.2.1 u.2.2.2.2.1 u.2.2.2.2.2.1 u.2.2.2.2.2.2.1 u.2.2.2.2.2.2.2) ∧
    (∀ (post : Int32 → SY → Prop) (f : Nat), m < f → post (nI c') v' → wY_run_14 post (nI n) f (nI c) v.1 v.2.1 v.2.2.1 v.2.2.2.1 v.2.2.2.2.1 v.2.2.2.2.2.1 v.2.2.2.2.2.2.1 v.2.2.2.2.2.2.2.1 v.2.2.2.2.2.2.2.2.1 v.2.2.2.2.2.2.2.2.2.1 v.2.2.2.2.2.2.2.2.2.2.1 v.2.2.2.2.2.2.2.2.2.2.2) := by
  intro m
  induction m with
  | zero =>
    intro c d u v e R hd
    obtain rfl : c = n := by omega
    obtain ⟨p, o, hl, cp, hc, cw, sw, ob, rg, ce, op, tg, nu, sp, ht, rfl, rfl, F⟩ := R
    refine ⟨c, d, _, _, by omega, ⟨p, o, hl, cp, hc, cw, sw, ob, rg, ce, op, tg, nu, sp, ht, rfl, rfl, F⟩, fun post f hf h => ?_, fun post f hf h => ?_⟩
    · obtain ⟨g, rfl⟩ : ∃ g, f = g + 1 := ⟨f - 1, by omega⟩
      exact br_t (nI_le (Nat.le_refl _) (by omega)) h
    · obtain ⟨g, rfl⟩ : ∃ g, f = g + 1 := ⟨f - 1, by omega⟩
      exact br_t (nI_le (Nat.le_refl _) (by omega)) h
  | succ m ih =>
    intro c d u v e R hd
    obtain ⟨p, o, hl, cp, hc, cw, sw, ob, rg, ce, op, tg, nu, sp, ht, rfl, rfl, F⟩ := R
    have F' := F
    obtain ⟨f1, f2, f3, f4, f5, f6, f7, S⟩ := F'
    rcases f4 with rfl | rfl
    · obtain ⟨u1, v1, X, Y, R1⟩ := sp_step (ob := ob) F (by omega)
      obtain ⟨c', d', u', v', hd', R', X', Y'⟩ := ih (c + 1) (d + 1) u1 v1 (by omega) R1 (by omega)
      obtain ⟨p1, o1, hl1, cp1, hc1, cw1, sw1, ob1, rg1, ce1, op1, tg1, nu1, sp1, ht1, rfl, rfl, F1⟩ := R1
      refine ⟨c', d', u', v', by omega, R', fun post f hf h => ?_, fun post f hf h => ?_⟩
      · obtain ⟨g, rfl⟩ : ∃ g, f = g + 1 := ⟨f - 1, by omega⟩
        refine br_f (nI_ge (by omega) (by omega)) (br_t rfl (X _ ?_))
        exact nm_r (nI_1 c) (X' post g (by omega) h)
      · obtain ⟨g, rfl⟩ : ∃ g, f = g + 1 := ⟨f - 1, by omega⟩
        refine br_f (nI_ge (by omega) (by omega)) (br_t rfl (Y _ ?_))
        exact nm_r (nI_1 c) (Y' post g (by omega) h)
    · refine ⟨c, d, _, _, by omega, ⟨p, o, 1, cp, hc, cw, sw, ob, rg, ce, op, tg, nu, sp, ht, rfl, rfl, F⟩, fun post f hf h => ?_, fun post f hf h => ?_⟩
      · obtain ⟨g, rfl⟩ : ∃ g, f = g + 1 := ⟨f - 1, by omega⟩
        exact br_f (nI_ge (by omega) (by omega)) (br_f xw_1 h)
      · obtain ⟨g, rfl⟩ : ∃ g, f = g + 1 := ⟨f - 1, by omega⟩
        exact br_f (nI_ge (by omega) (by omega)) (br_f xw_1 h)
end RUN
theorem i_vc_run {k : Nat} {u : SX} {v : SY} (I : i_Rel k u v) (hk : k + 5 ≤ 2560) (v1 : Int32) : wpX_run (fun r u' => wpY_run (fun r' v' => r' = r ∧ i_Rel (k + 5) u' v') v v1) u v1 := by
  obtain ⟨d, hd, R⟩ := I
  have R0 := R
  obtain ⟨p, o, hl, cp, hc, cw, sw, ob, rg, ce, op, tg, nu, sp, ht, rfl, rfl, F⟩ := R0
  unfold wpX_run
  by_cases b : v1 < 0 ∨ 100 < v1
  · refine xi_no b (br_t rfl ?_)
    by_cases b0 : v1 < 0
    · exact br_t b0 ⟨rfl, ir_0 hd R⟩
    · have b1 : ¬ v1 ≤ 100 := Int32.not_le.mpr (b.resolve_left b0)
      exact br_f b0 (br_f b1 ⟨rfl, ir_0 hd R⟩)
  · have b0 : ¬ v1 < 0 := fun z => b (Or.inl z)
    have b1 : v1 ≤ 100 := Int32.not_lt.mp (fun z => b (Or.inr z))
    obtain ⟨n, hn, rfl⟩ := in_j (n := 100) (by decide) b
    obtain ⟨c', d', u', v', hd', R', X, Y⟩ := rn_loop n hn n 0 d _ _ (by omega) R (by omega)
    refine xi_yes b (br_f xw_1 ⟨n + 1, X _ (n + 1) (by omega) ?_⟩)
    exact br_f b0 (br_t b1 ⟨n + 1, Y _ (n + 1) (by omega) ⟨rfl, d', by omega, R'⟩⟩)
section RESET
variable {oc hl tn : Int32} {cp hc cw sw ob : Nat → Int32} {a sh hl2 dn : Int32} {rg ce op tg nu pp sp ht : Nat → Int32}
def rz_w (i : Nat) (f : Nat → Int32) : Nat → Int32 := fun j => if j / 3 < i then 0 else f j
theorem rz_ws (i : Nat) (f : Nat → Int32) : sm_w3 (rz_w i f) i 0 = rz_w (i + 1) f := xv_hp i (fun _ => 0) f
theorem rz_w0 (f : Nat → Int32) : rz_w 0 f = f := xv_hp0 (fun _ => 0) f
theorem xz_L (post : SX → Prop) (h : post (0, 0, tn, rz_w 6 cp, sm_hc 6 hc, cw, sw, ob)) : ∀ k i n, i + k = 6 → k < n → wX_reset_2 post n (nI i) oc hl tn (rz_w i cp) (sm_hc i hc) cw sw ob := by
  intro k
  induction k with
  | zero =>
    intro i n e hn
    obtain ⟨m, rfl⟩ : ∃ m, n = m + 1 := ⟨n - 1, by omega⟩
    obtain rfl : i = 6 := by omega
    exact br_t (by decide) h
  | succ k ih =>
    intro i n e hn
    obtain ⟨m, rfl⟩ : ∃ m, n = m + 1 := ⟨n - 1, by omega⟩
    refine br_f (nI_ge (b := 6) (by omega) (by decide)) (xv_write _ (by omega) _ ?_)
    rw [rz_ws, xv_hc]
    exact nm_r (nI_1 i) (ih (i + 1) m (by omega) (by omega))
theorem xz_reset (post : SX → Prop) (h : post (0, 0, tn, rz_w 6 cp, sm_hc 6 hc, cw, sw, ob)) : wpX_reset post (oc, hl, tn, cp, hc, cw, sw, ob) := by
  have i := xz_L (oc := oc) (hl := hl) post h 6 0 7 (by omega) (by omega)
  rw [rz_w0, xv_hc0] at i
  exact ⟨7, i⟩
theorem yz_L (post : SY → Prop) (h : post (0, 0, 0, dn, sm_hc 4 rg, ce, op, tg, nu, pp, sp, sm_hc 6 ht)) : ∀ k i n, i + k = 4 → k < n → wY_reset_2 post a sh hl2 dn n (nI i) (sm_hc i rg) ce op tg nu pp sp ht := by
  intro k
  induction k with
  | zero =>
    intro i n e hn
    obtain ⟨m, rfl⟩ : ∃ m, n = m + 1 := ⟨n - 1, by omega⟩
    obtain rfl : i = 4 := by omega
    exact br_t (by decide) (yf_forget _ h)
  | succ k ih =>
    intro i n e hn
    obtain ⟨m, rfl⟩ : ∃ m, n = m + 1 := ⟨n - 1, by omega⟩
    refine br_f (nI_ge (b := 4) (by omega) (by decide)) ⟨vp_in_nI (by omega) (by decide), nm_r ?_ (nm_r (nI_1 i) (ih (i + 1) m (by omega) (by omega)))⟩
    rw [nI_clamp (by omega), xv_hc]
theorem yz_reset (post : SY → Prop) (h : post (0, 0, 0, dn, sm_hc 4 rg, ce, op, tg, nu, pp, sp, sm_hc 6 ht)) : wpY_reset post (a, sh, hl2, dn, rg, ce, op, tg, nu, pp, sp, ht) := by
  have i := yz_L (a := a) (sh := sh) (hl2 := hl2) post h 4 0 5 (by omega) (by omega)
  rw [xv_hc0] at i
  exact ⟨5, i⟩
theorem rz_val {s : Nat} : sm_val (sm_hc 4 rg) (nI 0) s = 0 := by
  unfold sm_val
  split
  · exact if_pos (by assumption)
  split
  · rfl
  · rfl
end RESET
theorem i_vc_reset {k : Nat} {u : SX} {v : SY} (I : i_Rel k u v) (hk : k + 5 ≤ 2560) : wpX_reset (fun u' => wpY_reset (fun v' => i_Rel (k + 5) u' v') v) u := by
  obtain ⟨d, hd, p, o, hl, cp, hc, cw, sw, ob, rg, ce, op, tg, nu, sp, ht, rfl, rfl, f1, f2, f3, f4, f5, f6, f7, S⟩ := I
  refine xz_reset _ (yz_reset _ (ir_0 hd ⟨0, 0, 0, _, _, cw, sw, ob, _, ce, op, tg, nu, sp, _, rfl, rfl, by decide, by decide, f3, Or.inl rfl, ?_, sm_Z_e sm_Z_h, ?_, S⟩))
  · intro s hs j hj _
    rw [rz_val]
    exact if_pos (by omega)
  · intro r hr
    exact ⟨0, by decide, if_pos hr⟩
