/-! 12: hits -/
section HITS
variable {cp hc ht val : Nat → Int32}
theorem hs_CP (C : sm_CP cp hc val) {s c : Nat} (hs : s < 6) (hc3 : c < 3) (x : Int32) (z : hc s = 0 ∨ hc s = nI (c + 1)) : sm_CP (upd cp (s * 3 + c) x) (upd hc s (nI (c + 1))) val := by
  intro t ht j hj h
  by_cases e : t = s
  · subst e
    rw [pk_us] at h
    have hjc : j ≠ c := fun q => h (by rw [q])
    rw [pk_un (by omega)]
    refine C t ht j hj ?_
    rcases z with z | z
    · rw [z, ← nI_0]
      exact fun q => absurd ((nI_eq (by omega) (by omega)).mp q) (by omega)
    · rw [z]
      exact fun q => hjc (by have := (nI_eq (by omega) (by omega)).mp q; omega)
  · rw [pk_un e] at h
    rw [pk_un (by omega)]
    exact C t ht j hj h
theorem hs_both (C : sm_CP cp hc val) (E : ∀ s, s < 6 → hc s = ht s) {s : Nat} (hs : s < 6) (v2 v3 : Int32) (mg : Nat) (f : Int32) (hf : (¬ (v3 < 1 ∨ nI mg < v3) ∧ f = 1) ∨ ((v3 < 1 ∨ nI mg < v3) ∧ f = 0)) : ∃ (r : Int32) (cp' hc' ht' : Nat → Int32), (r = 0 ∨ r = 1) ∧ sm_CP cp' hc' val ∧ (∀ t, t < 6 → hc' t = ht' t) ∧
    (∀ (post : Int32 → SX → Prop) (oc hl tn : Int32) (cw sw ob : Nat → Int32), post r (oc, hl, tn, cp', hc', cw, sw, ob) → wpX_hitSlot post (oc, hl, tn, cp, hc, cw, sw, ob) (nI s) v2 v3 (nI mg)) ∧
    (∀ (post : Int32 → SY → Prop) (a sh hl dn : Int32) (rg ce op tg nu pp sp : Nat → Int32), post r (a, sh, hl, dn, rg, ce, op, tg, nu, pp, sp, ht') → wpY_hit post (a, sh, hl, dn, rg, ce, op, tg, nu, pp, sp, ht) (nI s) v2 f) := by
  have hin : vp_in (nI s) 6 := vp_in_nI hs (by decide)
  have hcs : hc (nI s).toNatClampNeg = hc s := by rw [nI_clamp (by omega)]
  have hts : ht (nI s).toNatClampNeg = hc s := by rw [nI_clamp (by omega), E s hs]
  rcases hf with ⟨bm, rfl⟩ | ⟨bm, rfl⟩
  · by_cases bc : v2 < 0 ∨ 2 < v2
    · refine ⟨0, cp, hc, ht, Or.inl rfl, C, E, fun post oc hl tn cw sw ob h => ?_, fun post a sh hl dn rg ce op tg nu pp sp h => ?_⟩
      · unfold wpX_hitSlot
        exact xi_no bc (br_t rfl h)
      · exact br_f xw_1 (y_no bc h)
    · obtain ⟨c, hc2, rfl⟩ := in_j (n := 2) (by decide) bc
      have ei : nI s * 3 + nI c = nI (s * 3 + c) := by
        rw [show nI s * 3 = nI (s * 3) from pk_mul s 3, nI_add]
      have ii : vp_in (nI s * 3 + nI c) 18 := by rw [ei]; exact vp_in_nI (by omega) (by decide)
      have ecp : upd cp (nI s * 3 + nI c).toNatClampNeg (cp (nI s * 3 + nI c).toNatClampNeg ^^^ v3) = upd cp (s * 3 + c) (cp (s * 3 + c) ^^^ v3) := by rw [ei, nI_clamp (by omega)]
      have ehc : upd hc (nI s).toNatClampNeg (nI c + 1) = upd hc s (nI (c + 1)) := by rw [nI_clamp (by omega), nI_1]
      have eht : upd ht (nI s).toNatClampNeg (nI c + 1) = upd ht s (nI (c + 1)) := by rw [nI_clamp (by omega), nI_1]
      by_cases z : hc s = 0 ∨ hc s = nI (c + 1)
      · refine ⟨1, _, _, upd ht s (nI (c + 1)), Or.inr rfl, hs_CP C hs (by omega) (cp (s * 3 + c) ^^^ v3) z, ?_, fun post oc hl tn cw sw ob h => ?_, fun post a sh hl dn rg ce op tg nu pp sp h => ?_⟩
        · intro t ht6
          by_cases q : t = s
          · rw [q, pk_us, pk_us]
          · rw [pk_un q, pk_un q]
            exact E t ht6
        · have fin : wX_hitSlot_44 post (nI s) (nI c) v3 oc hl tn cp hc cw sw ob := ⟨ii, ii, nm_r ecp ⟨hin, nm_r ehc h⟩⟩
          unfold wpX_hitSlot
          refine xi_yes bc (br_f xw_1 (xi_yes bm (br_f xw_1 ⟨hin, ?_⟩)))
          rw [hcs]
          by_cases z0 : hc s = 0
          · exact br_t z0 fin
          · exact br_f z0 ⟨hin, br_t ((z.resolve_left z0).trans (nI_1 c).symm) fin⟩
        · have fin : wY_hit_36 post (nI s) (nI c) a sh hl dn rg ce op tg nu pp sp ht := ⟨hin, nm_r eht h⟩
          refine br_f xw_1 (y_yes bc ⟨hin, ?_⟩)
          rw [hts]
          by_cases z0 : hc s = 0
          · exact br_t z0 fin
          · exact br_f z0 ⟨hin, br_t ((z.resolve_left z0).trans (nI_1 c).symm) fin⟩
      · have z0 : ¬ hc s = 0 := fun q => z (Or.inl q)
        have z1 : ¬ hc s = nI c + 1 := fun q => z (Or.inr (q.trans (nI_1 c)))
        refine ⟨0, cp, hc, ht, Or.inl rfl, C, E, fun post oc hl tn cw sw ob h => ?_, fun post a sh hl dn rg ce op tg nu pp sp h => ?_⟩
        · unfold wpX_hitSlot
          refine xi_yes bc (br_f xw_1 (xi_yes bm (br_f xw_1 ⟨hin, ?_⟩)))
          rw [hcs]
          exact br_f z0 ⟨hin, br_f z1 h⟩
        · refine br_f xw_1 (y_yes bc ⟨hin, ?_⟩)
          rw [hts]
          exact br_f z0 ⟨hin, br_f z1 h⟩
  · refine ⟨0, cp, hc, ht, Or.inl rfl, C, E, fun post oc hl tn cw sw ob h => ?_, fun post a sh hl dn rg ce op tg nu pp sp h => br_t rfl h⟩
    unfold wpX_hitSlot
    by_cases bc : v2 < 0 ∨ 2 < v2
    · exact xi_no bc (br_t rfl h)
    · exact xi_yes bc (br_f xw_1 (xi_no bm (br_t rfl h)))
end HITS
theorem i_vc_hitRegister {k : Nat} {u : SX} {v : SY} (I : i_Rel k u v) (hk : k + 5 ≤ 2560) (v1 : Int32) (v2 : Int32) (v3 : Int32) : wpX_hitRegister (fun r u' => wpY_hitRegister (fun r' v' => r' = r ∧ i_Rel (k + 5) u' v') v v1 v2 v3) u v1 v2 v3 := by
  obtain ⟨d, hd, R⟩ := I
  have R0 := R
  obtain ⟨p, o, hl, cp, hc, cw, sw, ob, rg, ce, op, tg, nu, sp, ht, rfl, rfl, f1, f2, f3, f4, f5, f6, f7, S⟩ := R0
  unfold wpX_hitRegister wpY_hitRegister
  by_cases b1 : v1 < 0 ∨ 3 < v1
  · exact xi_no b1 (br_t rfl (y_no b1 (br_t rfl ⟨rfl, ir_0 hd R⟩)))
  obtain ⟨s, hs, rfl⟩ := in_j (n := 3) (by decide) b1
  refine xi_yes b1 (br_f xw_1 ?_)
  by_cases bm : v3 < 1 ∨ 255 < v3
  · obtain ⟨r, cp', hc', ht', hr, C', E', X, Y⟩ := hs_both f5 f6 (s := s) (by omega) v2 v3 255 0 (Or.inr ⟨bm, rfl⟩)
    refine X _ _ _ _ _ _ _ ?_
    rcases hr with rfl | rfl
    · exact br_t rfl (y_yes b1 (br_f xw_1 (y_no bm (Y _ _ _ _ _ _ _ _ _ _ _ _ (br_t rfl ⟨rfl, ir_0 hd ⟨p, o, hl, cp', hc', cw, sw, ob, rg, ce, op, tg, nu, sp, ht', rfl, rfl, f1, f2, f3, f4, C', E', f7, S⟩⟩)))))
    · exact br_f xw_1 (y_yes b1 (br_f xw_1 (y_no bm (Y _ _ _ _ _ _ _ _ _ _ _ _ (br_f xw_1 ⟨rfl, ir_0 hd ⟨p, o, hl, cp', hc', cw, sw, ob, rg, ce, op, tg, nu, sp, ht', rfl, rfl, f1, f2, f3, f4, C', E', f7, S⟩⟩)))))
  · obtain ⟨r, cp', hc', ht', hr, C', E', X, Y⟩ := hs_both f5 f6 (s := s) (by omega) v2 v3 255 1 (Or.inl ⟨bm, rfl⟩)
    refine X _ _ _ _ _ _ _ ?_
    rcases hr with rfl | rfl
    · exact br_t rfl (y_yes b1 (br_f xw_1 (y_yes bm (Y _ _ _ _ _ _ _ _ _ _ _ _ (br_t rfl ⟨rfl, ir_0 hd ⟨p, o, hl, cp', hc', cw, sw, ob, rg, ce, op, tg, nu, sp, ht', rfl, rfl, f1, f2, f3, f4, C', E', f7, S⟩⟩)))))
    · exact br_f xw_1 (y_yes b1 (br_f xw_1 (y_yes bm (Y _ _ _ _ _ _ _ _ _ _ _ _ (br_f xw_1 ⟨rfl, ir_0 hd ⟨p, o, hl, cp', hc', cw, sw, ob, rg, ce, op, tg, nu, sp, ht', rfl, rfl, f1, f2, f3, f4, C', E', f7, S⟩⟩)))))
theorem hn_01 {r : Int32} (h : r = 0 ∨ r = 1) : narrow .boolean (.int r) = .int r := by
  rcases h with rfl | rfl <;> rfl
theorem i_vc_hitPlace {k : Nat} {u : SX} {v : SY} (I : i_Rel k u v) (hk : k + 5 ≤ 2560) (v1 : Int32) (v2 : Int32) : wpX_hitPlace (fun r u' => wpY_hitPlace (fun r' v' => r' = r ∧ i_Rel (k + 5) u' v') v v1 v2) u v1 v2 := by
  obtain ⟨d, hd, p, o, hl, cp, hc, cw, sw, ob, rg, ce, op, tg, nu, sp, ht, rfl, rfl, f1, f2, f3, f4, f5, f6, f7, S⟩ := I
  unfold wpX_hitPlace wpY_hitPlace
  by_cases bm : v2 < 1 ∨ 31 < v2
  · obtain ⟨r, cp', hc', ht', hr, C', E', X, Y⟩ := hs_both f5 f6 (s := 4) (by decide) v1 v2 31 0 (Or.inr ⟨bm, rfl⟩)
    refine X _ _ _ _ _ _ _ ⟨hn_01 hr, y_no bm ?_⟩
    unfold wY_hitPlace_18 wY_hitPlace_19
    exact Y _ _ _ _ _ _ _ _ _ _ _ _ ⟨hn_01 hr, rfl, ir_0 hd ⟨p, o, hl, cp', hc', cw, sw, ob, rg, ce, op, tg, nu, sp, ht', rfl, rfl, f1, f2, f3, f4, C', E', f7, S⟩⟩
  · obtain ⟨r, cp', hc', ht', hr, C', E', X, Y⟩ := hs_both f5 f6 (s := 4) (by decide) v1 v2 31 1 (Or.inl ⟨bm, rfl⟩)
    refine X _ _ _ _ _ _ _ ⟨hn_01 hr, y_yes bm ?_⟩
    unfold wY_hitPlace_19
    exact Y _ _ _ _ _ _ _ _ _ _ _ _ ⟨hn_01 hr, rfl, ir_0 hd ⟨p, o, hl, cp', hc', cw, sw, ob, rg, ce, op, tg, nu, sp, ht', rfl, rfl, f1, f2, f3, f4, C', E', f7, S⟩⟩
theorem i_vc_hitWork {k : Nat} {u : SX} {v : SY} (I : i_Rel k u v) (hk : k + 5 ≤ 2560) (v1 : Int32) (v2 : Int32) : wpX_hitWork (fun r u' => wpY_hitWork (fun r' v' => r' = r ∧ i_Rel (k + 5) u' v') v v1 v2) u v1 v2 := by
  obtain ⟨d, hd, p, o, hl, cp, hc, cw, sw, ob, rg, ce, op, tg, nu, sp, ht, rfl, rfl, f1, f2, f3, f4, f5, f6, f7, S⟩ := I
  unfold wpX_hitWork wpY_hitWork
  by_cases bm : v2 < 1 ∨ 255 < v2
  · obtain ⟨r, cp', hc', ht', hr, C', E', X, Y⟩ := hs_both f5 f6 (s := 5) (by decide) v1 v2 255 0 (Or.inr ⟨bm, rfl⟩)
    refine X _ _ _ _ _ _ _ ⟨hn_01 hr, y_no bm ?_⟩
    exact Y _ _ _ _ _ _ _ _ _ _ _ _ ⟨hn_01 hr, rfl, ir_0 hd ⟨p, o, hl, cp', hc', cw, sw, ob, rg, ce, op, tg, nu, sp, ht', rfl, rfl, f1, f2, f3, f4, C', E', f7, S⟩⟩
  · obtain ⟨r, cp', hc', ht', hr, C', E', X, Y⟩ := hs_both f5 f6 (s := 5) (by decide) v1 v2 255 1 (Or.inl ⟨bm, rfl⟩)
    refine X _ _ _ _ _ _ _ ⟨hn_01 hr, y_yes bm ?_⟩
    exact Y _ _ _ _ _ _ _ _ _ _ _ _ ⟨hn_01 hr, rfl, ir_0 hd ⟨p, o, hl, cp', hc', cw, sw, ob, rg, ce, op, tg, nu, sp, ht', rfl, rfl, f1, f2, f3, f4, C', E', f7, S⟩⟩
/-! code words hit -/
section HITW
variable {cw sw ce op tg nu sp : Nat → Int32}
theorem hw_c (H : sm_Ws cw sw ce op tg nu sp) {c : Nat} (w : Int32) (W : sm_W 13 w (ce c) 1) : sm_Ws (upd cw c w) sw ce op tg nu (upd sp (32 + c) 1) := by
  refine ⟨fun i hi => ?_, fun i hi => ?_⟩
  · by_cases z : i = c
    · subst z
      rw [pk_us, pk_us]
      exact W
    · rw [pk_un z, pk_un (by omega)]
      exact H.1 i hi
  · rw [pk_un (by omega)]
    exact H.2 i hi
theorem hw_s (H : sm_Ws cw sw ce op tg nu sp) {q : Nat} (hq : q < 32) (w : Int32) (W : sm_St w (op q) (tg q) (nu q) 1) : sm_Ws cw (upd sw q w) ce op tg nu (upd sp q 1) := by
  refine ⟨fun i hi => ?_, fun i hi => ?_⟩
  · rw [pk_un (by omega)]
    exact H.1 i hi
  · by_cases z : i = q
    · subst z
      rw [pk_us, pk_us]
      exact W
    · rw [pk_un z, pk_un z]
      exact H.2 i hi
theorem hw_b {w i : Nat} (hi : i < 32) : nI w ^^^ ((1 : Int32) <<< (nI i &&& 31)) = nI (w ^^^ 2 ^ i) := by
  rw [show (1 : Int32) <<< (nI i &&& 31) = nI (1 * 2 ^ i) from sm_shl1 (by decide) hi, Nat.one_mul, nx_xor]
end HITW
theorem i_vc_hitData {k : Nat} {u : SX} {v : SY} (I : i_Rel k u v) (hk : k + 5 ≤ 2560) (v1 : Int32) (v2 : Int32) : wpX_hitData (fun r u' => wpY_hitData (fun r' v' => r' = r ∧ i_Rel (k + 5) u' v') v v1 v2) u v1 v2 := by
  obtain ⟨d, hd, R⟩ := I
  have R0 := R
  obtain ⟨p, o, hl, cp, hc, cw, sw, ob, rg, ce, op, tg, nu, sp, ht, rfl, rfl, f1, f2, f3, f4, f5, f6, f7, S⟩ := R0
  unfold wpX_hitData wpY_hitData
  by_cases b1 : v1 < 0 ∨ 15 < v1
  · exact xi_no b1 (br_t rfl (y_no b1 (br_t rfl ⟨rfl, ir_0 hd R⟩)))
  obtain ⟨c, hc16, rfl⟩ := in_j (n := 15) (by decide) b1
  refine xi_yes b1 (br_f xw_1 ?_)
  unfold wpX_hitWord__cellWords
  rw [show (13 : Int32) - 1 = 12 from by decide]
  by_cases b2 : v2 < 0 ∨ 12 < v2
  · exact xi_no b2 (br_t rfl (br_t rfl (y_yes b1 (br_f xw_1 (y_no b2 ⟨rfl, ir_0 hd R⟩)))))
  obtain ⟨i, hi, rfl⟩ := in_j (n := 12) (by decide) b2
  obtain ⟨wn, vn, sn, ew, ev, es, W⟩ := S.1 c (by omega)
  have hin : vp_in (nI c) 16 := vp_in_nI (by omega) (by decide)
  have ec : cw (nI c).toNatClampNeg = nI wn := by rw [nI_clamp (by omega), ew]
  have e32 : 32 + nI c = nI (32 + c) := nI_add 32 c
  have esp : sp (32 + nI c).toNatClampNeg = nI sn := by rw [e32, nI_clamp (by omega), es]
  have hsp : vp_in (32 + nI c) 48 := by rw [e32]; exact vp_in_nI (by omega) (by decide)
  have hs2 := sm_Wd_2 W
  have hs01 : sn = 0 ∨ sn = 1 := by omega
  refine xi_yes b2 (br_f xw_1 ⟨hin, ?_⟩)
  rw [ec]
  refine xw_parW (b := 13) _ W ?_
  rcases hs01 with rfl | rfl
  · have eu : upd cw (nI c).toNatClampNeg (nI wn ^^^ ((1 : Int32) <<< (nI i &&& 31))) = upd cw c (nI (wn ^^^ 2 ^ i)) := by rw [hw_b (by omega), nI_clamp (by omega)]
    have eus : upd sp (32 + nI c).toNatClampNeg (vp_nar .boolean 1) = upd sp (32 + c) 1 := by rw [e32, nI_clamp (by omega), y_b1]
    refine br_t rfl ⟨hin, hin, nm_r eu (br_f xw_1 (y_yes b1 (br_f xw_1 (y_yes b2 ⟨hsp, br_t esp ⟨hsp, nm_r eus (br_f xw_1 ⟨rfl, ir_0 hd ⟨p, o, hl, cp, hc, _, sw, ob, rg, ce, op, tg, nu, _, ht, rfl, rfl, f1, f2, f3, f4, f5, f6, f7, hw_c S _ ?_⟩⟩)⟩⟩))))⟩
    exact ⟨wn ^^^ 2 ^ i, vn, 1, rfl, ev, rfl, sm_Wd_1 W (by omega)⟩
  · exact br_f (by decide) (br_t rfl (y_yes b1 (br_f xw_1 (y_yes b2 ⟨hsp, br_f (by rw [esp]; decide) (br_t rfl ⟨rfl, ir_0 hd R⟩)⟩))))
theorem i_vc_hitProgram {k : Nat} {u : SX} {v : SY} (I : i_Rel k u v) (hk : k + 5 ≤ 2560) (v1 : Int32) (v2 : Int32) : wpX_hitProgram (fun r u' => wpY_hitProgram (fun r' v' => r' = r ∧ i_Rel (k + 5) u' v') v v1 v2) u v1 v2 := by
  obtain ⟨d, hd, R⟩ := I
  have R0 := R
  obtain ⟨p, o, hl, cp, hc, cw, sw, ob, rg, ce, op, tg, nu, sp, ht, rfl, rfl, f1, f2, f3, f4, f5, f6, f7, S⟩ := R0
  unfold wpX_hitProgram wpY_hitProgram
  by_cases b1 : v1 < 0 ∨ 31 < v1
  · exact xi_no b1 (br_t rfl (y_no b1 (br_t rfl ⟨rfl, ir_0 hd R⟩)))
  obtain ⟨c, hc32, rfl⟩ := in_j (n := 31) (by decide) b1
  refine xi_yes b1 (br_f xw_1 ?_)
  unfold wpX_hitWord__stepWords
  rw [show (22 : Int32) - 1 = 21 from by decide]
  by_cases b2 : v2 < 0 ∨ 21 < v2
  · exact xi_no b2 (br_t rfl (br_t rfl (y_yes b1 (br_f xw_1 (y_no b2 ⟨rfl, ir_0 hd R⟩)))))
  obtain ⟨i, hi, rfl⟩ := in_j (n := 21) (by decide) b2
  obtain ⟨on, t, nn, wn, sn, h1, h2, h3, e1, e2, e3, ew, es, W⟩ := S.2 c (by omega)
  have hin : vp_in (nI c) 32 := vp_in_nI (by omega) (by decide)
  have ec : sw (nI c).toNatClampNeg = nI wn := by rw [nI_clamp (by omega), ew]
  have esp : sp (nI c).toNatClampNeg = nI sn := by rw [nI_clamp (by omega), es]
  have hsp : vp_in (nI c) 48 := vp_in_nI (by omega) (by decide)
  have hs2 := sm_Wd_2 W
  have hs01 : sn = 0 ∨ sn = 1 := by omega
  refine xi_yes b2 (br_f xw_1 ⟨hin, ?_⟩)
  rw [ec]
  refine xw_parW (b := 22) _ W ?_
  rcases hs01 with rfl | rfl
  · have eu : upd sw (nI c).toNatClampNeg (nI wn ^^^ ((1 : Int32) <<< (nI i &&& 31))) = upd sw c (nI (wn ^^^ 2 ^ i)) := by rw [hw_b (by omega), nI_clamp (by omega)]
    have eus : upd sp (nI c).toNatClampNeg (vp_nar .boolean 1) = upd sp c 1 := by rw [nI_clamp (by omega), y_b1]
    refine br_t rfl ⟨hin, hin, nm_r eu (br_f xw_1 (y_yes b1 (br_f xw_1 (y_yes b2 ⟨hsp, br_t esp ⟨hsp, nm_r eus (br_f xw_1 ⟨rfl, ir_0 hd ⟨p, o, hl, cp, hc, cw, _, ob, rg, ce, op, tg, nu, _, ht, rfl, rfl, f1, f2, f3, f4, f5, f6, f7, hw_s S (by omega) _ ?_⟩⟩)⟩⟩))))⟩
    exact ⟨on, t, nn, wn ^^^ 2 ^ i, 1, h1, h2, h3, e1, e2, e3, rfl, rfl, sm_Wd_1 W (by omega)⟩
  · exact br_f (by decide) (br_t rfl (y_yes b1 (br_f xw_1 (y_yes b2 ⟨hsp, br_f (by rw [esp]; decide) (br_t rfl ⟨rfl, ir_0 hd R⟩)⟩))))
