/-! 05: a step of the class -/
section XSTEP
variable {oc hl tn : Int32} {cp hc cw sw ob : Nat → Int32}
theorem xr_step (post : SX → Prop) {q wn vn sn : Nat} (hq : q < 32) (e : sw q = nI wn) (W : sm_Wd 22 vn wn sn) (h : post (oc, hl, tn, cp, hc, cw, upd sw q (nI (sm_en 22 vn)), ob)) : wpX_repair__stepWords post (oc, hl, tn, cp, hc, cw, sw, ob) (nI q) 22 := by
  have ec : sw (nI q).toNatClampNeg = nI wn := by rw [nI_clamp (by omega), e]
  refine ⟨vp_in_nI hq (by decide), ?_⟩
  rw [ec]
  exact xw_corW (b := 22) _ W ⟨vp_in_nI hq (by decide), nm_r (by rw [nI_clamp (by omega)]) h⟩
theorem xr_cell (post : SX → Prop) {q wn vn sn : Nat} (hq : q < 16) (e : cw q = nI wn) (W : sm_Wd 13 vn wn sn) (h : post (oc, hl, tn, cp, hc, upd cw q (nI (sm_en 13 vn)), sw, ob)) : wpX_repair__cellWords post (oc, hl, tn, cp, hc, cw, sw, ob) (nI q) 13 := by
  have ec : cw (nI q).toNatClampNeg = nI wn := by rw [nI_clamp (by omega), e]
  refine ⟨vp_in_nI hq (by decide), ?_⟩
  rw [ec]
  exact xw_corW (b := 13) _ W ⟨vp_in_nI hq (by decide), nm_r (by rw [nI_clamp (by omega)]) h⟩
theorem xv_hp5 {val cp : Nat → Int32} {s : Nat} {x : Int32} (hs : s < 5) (hx : val s = x) : ∀ j, j < 3 → (0 : Int32) ≠ nI (j + 1) → sm_hp 5 val cp (s * 3 + j) = x := by
  intro j hj _
  unfold sm_hp
  have e : (s * 3 + j) / 3 = s := by omega
  rw [e, if_pos hs, hx]
theorem xd_none (post : SX → Prop) {rg : Nat → Int32} {p on t nn wn sn : Nat} (hp : p < 32) (C : sm_CP cp hc (sm_val rg (nI p))) (ho : on < 14) (ht : t < 4) (hn : nn < 256) (ew : sw p = nI wn) (W : sm_Wd 22 (on * 1024 + t * 256 + nn) wn sn)
    (hcell : ∀ post' : Int32 → Prop, post' (-1) → wpX_cellOfStep post' (nI on) (nI nn) (rg (nn % 4)))
    (h : ∃ n, wX_doStep_123 post (nI p) (nI on) (nI t) (nI nn) (rg t) (rg (nn % 4)) (-1) 0 oc hl tn n 0 (sm_hp 5 (sm_val rg (nI p)) cp) (sm_hc 5 hc) cw (upd sw p (nI (sm_en 22 (on * 1024 + t * 256 + nn)))) ob) : wpX_doStep post (oc, hl, tn, cp, hc, cw, sw, ob) := by
  have ep : nI p &&& 31 = nI p := by
    rw [pk_andN (by omega) 5 (by decide), Nat.mod_eq_of_lt (by omega)]
  have e3 : nI nn &&& 3 = nI (nn % 4) := pk_andN (by omega) 2 (by decide)
  have x3 : nI (on * 1024 + t * 256 + nn) >>> ((10 : Int32) &&& 31) &&& 15 = nI on := by
    rw [pk_shrN (by omega) _ 10 (by decide), pk_andN (by omega) 4 (by decide)]
    exact congrArg nI (by omega)
  have x4 : nI (on * 1024 + t * 256 + nn) >>> ((8 : Int32) &&& 31) &&& 3 = nI t := by
    rw [pk_shrN (by omega) _ 8 (by decide), pk_andN (by omega) 2 (by decide)]
    exact congrArg nI (by omega)
  have x5 : nI (on * 1024 + t * 256 + nn) &&& 255 = nI nn := by
    rw [pk_andN (by omega) 8 (by decide)]
    exact congrArg nI (by omega)
  have eu : upd sw p (nI (sm_en 22 (on * 1024 + t * 256 + nn))) (nI p).toNatClampNeg = nI (sm_en 22 (on * 1024 + t * 256 + nn)) := by rw [nI_clamp (by omega), pk_us]
  unfold wpX_doStep
  refine xv_heal _ C ?_
  refine xv_voted (s := 4) _ (by decide) (xv_hp5 (by decide) sm_val_4) ?_
  refine nm_r ep ?_
  refine xr_step _ hp ew W ?_
  refine ⟨vp_in_nI hp (by decide), ?_⟩
  rw [eu]
  refine xw_decW (b := 22) _ (sm_Wd_0 W.1) ?_
  refine nm_r x3 (nm_r x4 (nm_r x5 ?_))
  rw [e3]
  refine xv_voted _ (by omega) (xv_hp5 (by omega) (sm_val_r ht)) ?_
  refine xv_voted _ (by omega) (xv_hp5 (by omega) (sm_val_r (by omega))) ?_
  exact hcell _ (br_t rfl h)
theorem xd_cell (post : SX → Prop) {rg : Nat → Int32} {p on t nn wn sn c cv cwn csn : Nat} (hp : p < 32) (C : sm_CP cp hc (sm_val rg (nI p))) (ho : on < 14) (ht : t < 4) (hn : nn < 256) (ew : sw p = nI wn) (W : sm_Wd 22 (on * 1024 + t * 256 + nn) wn sn)
    (hc16 : c < 16) (ec : cw c = nI cwn) (Wc : sm_Wd 13 cv cwn csn)
    (hcell : ∀ post' : Int32 → Prop, post' (nI c) → wpX_cellOfStep post' (nI on) (nI nn) (rg (nn % 4)))
    (h : ∃ n, wX_doStep_123 post (nI p) (nI on) (nI t) (nI nn) (rg t) (rg (nn % 4)) (nI c) (nI cv) oc hl tn n 0 (sm_hp 5 (sm_val rg (nI p)) cp) (sm_hc 5 hc) (upd cw c (nI (sm_en 13 cv))) (upd sw p (nI (sm_en 22 (on * 1024 + t * 256 + nn)))) ob) : wpX_doStep post (oc, hl, tn, cp, hc, cw, sw, ob) := by
  have ep : nI p &&& 31 = nI p := by
    rw [pk_andN (by omega) 5 (by decide), Nat.mod_eq_of_lt (by omega)]
  have e3 : nI nn &&& 3 = nI (nn % 4) := pk_andN (by omega) 2 (by decide)
  have x3 : nI (on * 1024 + t * 256 + nn) >>> ((10 : Int32) &&& 31) &&& 15 = nI on := by
    rw [pk_shrN (by omega) _ 10 (by decide), pk_andN (by omega) 4 (by decide)]
    exact congrArg nI (by omega)
  have x4 : nI (on * 1024 + t * 256 + nn) >>> ((8 : Int32) &&& 31) &&& 3 = nI t := by
    rw [pk_shrN (by omega) _ 8 (by decide), pk_andN (by omega) 2 (by decide)]
    exact congrArg nI (by omega)
  have x5 : nI (on * 1024 + t * 256 + nn) &&& 255 = nI nn := by
    rw [pk_andN (by omega) 8 (by decide)]
    exact congrArg nI (by omega)
  have eu : upd sw p (nI (sm_en 22 (on * 1024 + t * 256 + nn))) (nI p).toNatClampNeg = nI (sm_en 22 (on * 1024 + t * 256 + nn)) := by rw [nI_clamp (by omega), pk_us]
  have eu2 : upd cw c (nI (sm_en 13 cv)) (nI c).toNatClampNeg = nI (sm_en 13 cv) := by rw [nI_clamp (by omega), pk_us]
  have hne : ¬ nI c = -1 := by
    intro z
    have := nI_pos (n := c) (by omega)
    rw [z] at this
    exact this (by decide)
  unfold wpX_doStep
  refine xv_heal _ C ?_
  refine xv_voted (s := 4) _ (by decide) (xv_hp5 (by decide) sm_val_4) ?_
  refine nm_r ep ?_
  refine xr_step _ hp ew W ?_
  refine ⟨vp_in_nI hp (by decide), ?_⟩
  rw [eu]
  refine xw_decW (b := 22) _ (sm_Wd_0 W.1) ?_
  refine nm_r x3 (nm_r x4 (nm_r x5 ?_))
  rw [e3]
  refine xv_voted _ (by omega) (xv_hp5 (by omega) (sm_val_r ht)) ?_
  refine xv_voted _ (by omega) (xv_hp5 (by omega) (sm_val_r (by omega))) ?_
  refine hcell _ (br_f hne ?_)
  refine xr_cell _ hc16 ec Wc ?_
  refine ⟨vp_in_nI hc16 (by decide), ?_⟩
  rw [eu2]
  exact xw_decW (b := 13) _ (sm_Wd_0 Wc.1) h
/-! the work, three times -/
theorem xd_15 : ((15 : Int32) + 0).toNatClampNeg = 15 := by decide
theorem xd_16 : ((15 : Int32) + 1).toNatClampNeg = 16 := by decide
theorem xd_17 : ((15 : Int32) + 2).toNatClampNeg = 17 := by decide
theorem xd_i15 : vp_in ((15 : Int32) + 0) 18 := vp_in_iff.mpr (by decide)
theorem xd_i16 : vp_in ((15 : Int32) + 1) 18 := vp_in_iff.mpr (by decide)
theorem xd_i17 : vp_in ((15 : Int32) + 2) 18 := vp_in_iff.mpr (by decide)
def xd_c3 (cp : Nat → Int32) (x : Int32) : Nat → Int32 := upd (upd (upd cp 15 (cp 15 ^^^ x)) 16 (cp 16 ^^^ x)) 17 (cp 17 ^^^ x)
theorem xd_c3w (cp : Nat → Int32) (x : Int32) : sm_w3 (xd_c3 cp x) 5 0 = sm_w3 cp 5 0 := by
  funext j
  unfold sm_w3 xd_c3
  by_cases h : j / 3 = 5
  · rw [if_pos h, if_pos h]
  · rw [if_neg h, if_neg h, pk_un (by omega), pk_un (by omega), pk_un (by omega)]
theorem xd_c3v {cp : Nat → Int32} {x h : Int32} (H : ∀ j, j < 3 → h ≠ nI (j + 1) → cp (5 * 3 + j) = 0) : ∀ j, j < 3 → h ≠ nI (j + 1) → xd_c3 cp x (5 * 3 + j) = x := by
  intro j hj z
  have e := H j hj z
  unfold xd_c3
  have : j = 0 ∨ j = 1 ∨ j = 2 := by omega
  rcases this with rfl | rfl | rfl
  · have e' : cp 15 = 0 := e
    show upd (upd (upd cp 15 (cp 15 ^^^ x)) 16 (cp 16 ^^^ x)) 17 (cp 17 ^^^ x) 15 = x
    rw [pk_un (by decide), pk_un (by decide), pk_us, e', Int32.zero_xor]
  · have e' : cp 16 = 0 := e
    show upd (upd (upd cp 15 (cp 15 ^^^ x)) 16 (cp 16 ^^^ x)) 17 (cp 17 ^^^ x) 16 = x
    rw [pk_un (by decide), pk_us, e', Int32.zero_xor]
  · have e' : cp 17 = 0 := e
    show upd (upd (upd cp 15 (cp 15 ^^^ x)) 16 (cp 16 ^^^ x)) 17 (cp 17 ^^^ x) 17 = x
    rw [pk_us, e', Int32.zero_xor]
theorem xd_work (post : SX → Prop) {x1 x3 x4 x5 x6 x7 x8 x9 wv h : Int32} {oc' hl' tn' oc2 hl2 tn2 : Int32} {cp' hc' cw' sw' ob' cp2 hc2 cw2 sw2 ob2 : Nat → Int32}
    (hW : ∀ post' : Int32 → Prop, post' wv → wpX_workedOut post' x3 x6 x5 x7 x9 x1) (H : ∀ j, j < 3 → h ≠ nI (j + 1) → cp (5 * 3 + j) = 0)
    (hf : ∀ post' : SX → Prop, post' (oc', hl', tn', cp', hc', cw', sw', ob') → wpX_finishStep post' (oc, hl, tn, sm_w3 cp 5 0, upd hc 5 0, cw, sw, ob) x3 x4 x8 x1 wv)
    (ht : ∀ post' : SX → Prop, post' (oc2, hl2, tn2, cp2, hc2, cw2, sw2, ob2) → wpX_repairInTurn post' (oc', hl', tn', cp', hc', cw', sw', ob'))
    (hp : post (oc2, hl2, tn2, cp2, hc2, cw2, sw2, ob2)) : ∃ n, wX_doStep_123 post x1 x3 x4 x5 x6 x7 x8 x9 oc hl tn n 0 cp hc cw sw ob := by
  have a0 : upd cp ((15 : Int32) + 0).toNatClampNeg (cp ((15 : Int32) + 0).toNatClampNeg ^^^ wv) = upd cp 15 (cp 15 ^^^ wv) := by rw [xd_15]
  have a1 : upd (upd cp 15 (cp 15 ^^^ wv)) ((15 : Int32) + 1).toNatClampNeg (upd cp 15 (cp 15 ^^^ wv) ((15 : Int32) + 1).toNatClampNeg ^^^ wv) = upd (upd cp 15 (cp 15 ^^^ wv)) 16 (cp 16 ^^^ wv) := by rw [xd_16, pk_un (by decide)]
  have a2 : upd (upd (upd cp 15 (cp 15 ^^^ wv)) 16 (cp 16 ^^^ wv)) ((15 : Int32) + 2).toNatClampNeg (upd (upd cp 15 (cp 15 ^^^ wv)) 16 (cp 16 ^^^ wv) ((15 : Int32) + 2).toNatClampNeg ^^^ wv) = xd_c3 cp wv := by
    rw [xd_17, pk_un (f := upd cp 15 (cp 15 ^^^ wv)) (by decide), pk_un (f := cp) (by decide)]
    rfl
  refine ⟨4, br_f (by decide) ⟨xd_i15, hW _ ⟨xd_i15, nm_r a0 (nm_r (e' := 1) rfl (br_f (by decide) ⟨xd_i16, hW _ ⟨xd_i16, nm_r a1 (nm_r (e' := 2) rfl (br_f (by decide) ⟨xd_i17, hW _ ⟨xd_i17, nm_r a2 (nm_r (e' := 3) rfl (br_t (by decide) ?_))⟩⟩))⟩⟩))⟩⟩⟩
  refine xv_voted (s := 5) _ (by decide) (xd_c3v H) ?_
  refine xv_write (s := 5) _ (by decide) _ ?_
  rw [xd_c3w]
  exact hf _ (ht _ hp)
/-! the step's end -/
theorem xf_172 (post : SX → Prop) (x6 : Int32) (h : post (oc, hl, tn, sm_w3 cp 4 x6, upd hc 4 0, cw, sw, ob)) : wX_finishStep_172 post x6 oc hl tn cp hc cw sw ob := by
  unfold wX_finishStep_172
  exact xv_write (s := 4) _ (by decide) _ h
theorem xf_165 (post : SX → Prop) {r : Nat} (hr : r < 4) (x5 x6 : Int32) (h : post (oc, hl, tn, sm_w3 (sm_w3 cp r x5) 4 x6, upd (upd hc r 0) 4 0, cw, sw, ob)) : wX_finishStep_165 post (nI r) x5 x6 oc hl tn cp hc cw sw ob := by
  unfold wX_finishStep_165
  refine xv_write _ (by omega) _ ?_
  exact xf_172 post x6 h
theorem xf_137 (post : SX → Prop) {c v : Nat} (hc16 : c < 16) (hv : v < 2 ^ 31) (x6 : Int32) (h : post (oc, hl, tn, sm_w3 cp 4 x6, upd hc 4 0, upd cw c (nI (sm_en 13 v)), sw, ob)) : wX_finishStep_137 post (nI c) (nI v) x6 oc hl tn cp hc cw sw ob := by
  have hne : ¬ nI c = -1 := by
    intro z
    have := nI_pos (n := c) (by omega)
    rw [z] at this
    exact this (by decide)
  refine br_f hne (xw_encoded (b := 13) _ (Or.inl rfl) hv ⟨vp_in_nI hc16 (by decide), nm_r (by rw [nI_clamp (by omega)]) ?_⟩)
  exact xf_172 post x6 h
theorem xf_nx {p : Nat} (hp : p < 32) : (nI p + 1) &&& 31 = nI ((p + 1) % 32) := by
  rw [nI_1]
  exact pk_andN (by omega) 5 (by decide)
theorem xf_stop (post : SX → Prop) {p : Nat} (hp : p < 32) {r c x : Int32} (h : post (oc, 1, tn, sm_w3 cp 4 (nI p), upd hc 4 0, cw, sw, ob)) : wpX_finishStep post (oc, hl, tn, cp, hc, cw, sw, ob) (nI 0) r c (nI p) x := by
  refine nm_r (xf_nx hp) ?_
  repeat (first | refine br_t (by decide) ?_ | refine br_f (by decide) ?_)
  exact xf_172 post _ h
theorem xf_reg (post : SX → Prop) {p k r : Nat} (hp : p < 32) (hr : r < 4) (hk : k = 1 ∨ k = 2 ∨ k = 4 ∨ k = 5 ∨ k = 6 ∨ k = 7 ∨ k = 8 ∨ k = 12) {c x : Int32} (h : post (oc, hl, tn, sm_w3 (sm_w3 cp r x) 4 (nI ((p + 1) % 32)), upd (upd hc r 0) 4 0, cw, sw, ob)) : wpX_finishStep post (oc, hl, tn, cp, hc, cw, sw, ob) (nI k) (nI r) c (nI p) x := by
  refine nm_r (xf_nx hp) ?_
  rcases hk with rfl | rfl | rfl | rfl | rfl | rfl | rfl | rfl
  all_goals
    repeat (first | refine br_t (by decide) ?_ | refine br_f (by decide) ?_)
    exact xf_165 post hr _ _ h
theorem xf_jump (post : SX → Prop) {p k : Nat} (hp : p < 32) (hk : k = 9 ∨ k = 10) {r c x : Int32} (h : post (oc, hl, tn, sm_w3 cp 4 x, upd hc 4 0, cw, sw, ob)) : wpX_finishStep post (oc, hl, tn, cp, hc, cw, sw, ob) (nI k) r c (nI p) x := by
  refine nm_r (xf_nx hp) ?_
  rcases hk with rfl | rfl
  all_goals
    repeat (first | refine br_t (by decide) ?_ | refine br_f (by decide) ?_)
    unfold wX_finishStep_158
    exact xf_172 post _ h
theorem xf_store (post : SX → Prop) {p k c v : Nat} (hp : p < 32) (hk : k = 3 ∨ k = 13) (hc16 : c < 16) (hv : v < 2 ^ 31) {r : Int32} (h : post (oc, hl, tn, sm_w3 cp 4 (nI ((p + 1) % 32)), upd hc 4 0, upd cw c (nI (sm_en 13 v)), sw, ob)) : wpX_finishStep post (oc, hl, tn, cp, hc, cw, sw, ob) (nI k) r (nI c) (nI p) (nI v) := by
  refine nm_r (xf_nx hp) ?_
  rcases hk with rfl | rfl
  all_goals
    repeat (first | refine br_t (by decide) ?_ | refine br_f (by decide) ?_)
    exact xf_137 post hc16 hv _ h
theorem xf_out (post : SX → Prop) {p o : Nat} (hp : p < 32) (ho : o < 16) {r c x : Int32} (h : post (nI (o + 1), hl, tn, sm_w3 cp 4 (nI ((p + 1) % 32)), upd hc 4 0, cw, sw, upd ob o x)) : wpX_finishStep post (nI o, hl, tn, cp, hc, cw, sw, ob) (nI 11) r c (nI p) x := by
  refine nm_r (xf_nx hp) ?_
  repeat (first | refine br_t (by decide) ?_ | refine br_f (by decide) ?_)
  refine br_f (nI_ge (b := 16) ho (by decide)) ⟨vp_in_nI ho (by decide), nm_r (by rw [nI_clamp (by omega)]) (nm_r (nI_1 o) ?_)⟩
  exact xf_172 post _ h
theorem xf_full (post : SX → Prop) {p : Nat} (hp : p < 32) {r c x : Int32} (h : post (nI 16, 1, tn, sm_w3 cp 4 (nI p), upd hc 4 0, cw, sw, ob)) : wpX_finishStep post (nI 16, hl, tn, cp, hc, cw, sw, ob) (nI 11) r c (nI p) x := by
  refine nm_r (xf_nx hp) ?_
  repeat (first | refine br_t (by decide) ?_ | refine br_f (by decide) ?_)
  exact xf_172 post _ h
end XSTEP
