/-! 08: the relation, and a step of both -/
def sm_F (p o d : Nat) (hl : Int32) (cp hc cw sw rg ce op tg nu sp ht : Nat → Int32) : Prop := p < 32 ∧ o ≤ 16 ∧ d < 2 ^ 30 ∧ (hl = 0 ∨ hl = 1) ∧ sm_CP cp hc (sm_val rg (nI p)) ∧ (∀ s, s < 6 → hc s = ht s) ∧ (∀ r, r < 4 → sm_By (rg r)) ∧ sm_Ws cw sw ce op tg nu sp
def sm_R (d : Nat) (u : SX) (v : SY) : Prop := ∃ (p o : Nat) (hl : Int32) (cp hc cw sw ob rg ce op tg nu sp ht : Nat → Int32), u = (nI o, hl, nI (d % 48), cp, hc, cw, sw, ob) ∧ v = (nI p, nI o, hl, nI d, rg, ce, op, tg, nu, ob, sp, ht) ∧ sm_F p o d hl cp hc cw sw rg ce op tg nu sp ht
def sm_Ends (d : Nat) (u : SX) (v : SY) : Prop := ∃ u' v', (∀ post : SX → Prop, post u' → wpX_doStep post u) ∧ (∀ post : SY → Prop, post v' → wpY_once post v) ∧ sm_R (d + 1) u' v'
section STEP
variable {p o d : Nat} {hl : Int32} {cp hc cw sw ob rg ce op tg nu sp ht : Nat → Int32}
def sm_Z (hc : Nat → Int32) : Prop := ∀ s, s < 6 → hc s = 0
theorem sm_Z_u {k : Nat} (h : sm_Z hc) : sm_Z (upd hc k 0) := by
  intro s hs
  by_cases z : s = k
  · rw [z, pk_us]
  · rw [pk_un z]
    exact h s hs
theorem sm_Z_h : sm_Z (sm_hc 6 hc) := fun _ hs => if_pos hs
theorem sm_Z_5 : sm_Z (upd (sm_hc 5 hc) 5 0) := by
  rw [xv_hc]
  exact sm_Z_h
theorem sm_Z_e (h : sm_Z hc) : ∀ s, s < 6 → hc s = sm_hc 6 ht s := fun s hs => (h s hs).trans (sm_Z_h s hs).symm
theorem st_C5 {rg : Nat → Int32} {x : Int32} : sm_CP (sm_w3 (sm_hp 5 (sm_val rg x) cp) 5 0) (upd (sm_hc 5 hc) 5 0) (sm_val rg x) := by
  have e : sm_w3 (sm_hp 5 (sm_val rg x) cp) 5 0 = sm_hp 6 (sm_val rg x) cp := xv_hp 5 (sm_val rg x) cp
  rw [e, xv_hc]
  exact sm_CP_h cp hc
theorem st_C4 {x y : Int32} (C : sm_CP cp hc (sm_val rg x)) : sm_CP (sm_w3 cp 4 y) (upd hc 4 0) (sm_val rg y) := by
  refine sm_CP_w C sm_val_4 (fun t ht => ?_)
  unfold sm_val
  rw [if_neg ht, if_neg ht]
theorem st_Cr {t : Nat} (ht4 : t < 4) {x y : Int32} (C : sm_CP cp hc (sm_val rg x)) : sm_CP (sm_w3 cp t y) (upd hc t 0) (sm_val (upd rg t y) x) := by
  refine sm_CP_w C ?_ (fun s hs => ?_)
  · rw [sm_val_r ht4, pk_us]
  · unfold sm_val
    rw [pk_un hs]
theorem st_H5 {x : Int32} (C : sm_CP cp hc (sm_val rg x)) : ∀ j, j < 3 → hc 5 ≠ nI (j + 1) → sm_hp 5 (sm_val rg x) cp (5 * 3 + j) = 0 := xv_hpv C (by decide)
theorem st_By {t : Nat} {x : Int32} (B : ∀ r, r < 4 → sm_By (rg r)) (h : sm_By x) : ∀ r, r < 4 → sm_By (upd rg t x r) := by
  intro r hr
  by_cases z : r = t
  · rw [z, pk_us]
    exact h
  · rw [pk_un z]
    exact B r hr
theorem st_n {oc oc' hl' wv : Int32} {cp' hc' cw' sw' ob' ce' sp' : Nat → Int32} {on t nn wn sn : Nat} (hp : p < 32) (C : sm_CP cp hc (sm_val rg (nI p))) (h1 : on < 14) (h2 : t < 4) (h3 : nn < 256) (ew : sw p = nI wn) (W : sm_Wd 22 (on * 1024 + t * 256 + nn) wn sn)
    (hcell : ∀ post' : Int32 → Prop, post' (-1) → wpX_cellOfStep post' (nI on) (nI nn) (rg (nn % 4)))
    (hW : ∀ post' : Int32 → Prop, post' wv → wpX_workedOut post' (nI on) (rg t) (nI nn) (rg (nn % 4)) 0 (nI p))
    (hf : ∀ post' : SX → Prop, post' (oc', hl', nI (d % 48), cp', hc', cw', sw', ob') → wpX_finishStep post' (oc, hl, nI (d % 48), sm_w3 (sm_hp 5 (sm_val rg (nI p)) cp) 5 0, upd (sm_hc 5 hc) 5 0, cw, upd sw p (nI (sm_en 22 (on * 1024 + t * 256 + nn))), ob) (nI on) (nI t) (-1) (nI p) wv)
    (Hw : sm_Ws cw' sw' ce' op tg nu sp') : ∃ cw2 sw2, sm_Ws cw2 sw2 ce' op tg nu (upd sp' (d % 48) 0) ∧ ∀ post : SX → Prop, post (oc', hl', nI ((d + 1) % 48), cp', hc', cw2, sw2, ob') → wpX_doStep post (oc, hl, nI (d % 48), cp, hc, cw, sw, ob) := by
  obtain ⟨cw2, sw2, w1, w2⟩ := ws_turn Hw d
  exact ⟨cw2, sw2, w1, fun post h => xd_none post hp C h1 h2 h3 ew W hcell (xd_work post hW (st_H5 C) hf (fun post' h' => w2 post' _ _ _ _ _ h') h)⟩
theorem st_c {oc oc' hl' wv : Int32} {cp' hc' cw' sw' ob' ce' sp' : Nat → Int32} {on t nn wn sn c cv cwn csn : Nat} (hp : p < 32) (C : sm_CP cp hc (sm_val rg (nI p))) (h1 : on < 14) (h2 : t < 4) (h3 : nn < 256) (ew : sw p = nI wn) (W : sm_Wd 22 (on * 1024 + t * 256 + nn) wn sn)
    (hc16 : c < 16) (ec : cw c = nI cwn) (Wc : sm_Wd 13 cv cwn csn)
    (hcell : ∀ post' : Int32 → Prop, post' (nI c) → wpX_cellOfStep post' (nI on) (nI nn) (rg (nn % 4)))
    (hW : ∀ post' : Int32 → Prop, post' wv → wpX_workedOut post' (nI on) (rg t) (nI nn) (rg (nn % 4)) (nI cv) (nI p))
    (hf : ∀ post' : SX → Prop, post' (oc', hl', nI (d % 48), cp', hc', cw', sw', ob') → wpX_finishStep post' (oc, hl, nI (d % 48), sm_w3 (sm_hp 5 (sm_val rg (nI p)) cp) 5 0, upd (sm_hc 5 hc) 5 0, upd cw c (nI (sm_en 13 cv)), upd sw p (nI (sm_en 22 (on * 1024 + t * 256 + nn))), ob) (nI on) (nI t) (nI c) (nI p) wv)
    (Hw : sm_Ws cw' sw' ce' op tg nu sp') : ∃ cw2 sw2, sm_Ws cw2 sw2 ce' op tg nu (upd sp' (d % 48) 0) ∧ ∀ post : SX → Prop, post (oc', hl', nI ((d + 1) % 48), cp', hc', cw2, sw2, ob') → wpX_doStep post (oc, hl, nI (d % 48), cp, hc, cw, sw, ob) := by
  obtain ⟨cw2, sw2, w1, w2⟩ := ws_turn Hw d
  exact ⟨cw2, sw2, w1, fun post h => xd_cell post hp C h1 h2 h3 ew W hc16 ec Wc hcell (xd_work post hW (st_H5 C) hf (fun post' h' => w2 post' _ _ _ _ _ h') h)⟩
/-! bytes -/
theorem by_and (x : Int32) : sm_By (x &&& 255) := by
  refine ⟨x.toBitVec.toNat % 2 ^ 8, Nat.mod_lt _ (by decide), pk_and x 8 (by decide)⟩
theorem by_n {n : Nat} (h : n < 256) : sm_By (nI n) := ⟨n, h, rfl⟩
theorem by_calc {k nn : Nat} {x y : Int32} (hn : nn < 256) (hx : sm_By x) (hy : sm_By y) : sm_By (sm_calc k x y (nI nn)) := by
  obtain ⟨a, ha, rfl⟩ := hx
  obtain ⟨b, hb, rfl⟩ := hy
  unfold sm_calc
  split
  · exact by_n hn
  split
  · exact by_and _
  split
  · exact by_and _
  split
  · rw [nx_and]
    exact by_n (Nat.lt_of_le_of_lt Nat.and_le_left ha)
  split
  · rw [nx_xor]
    exact by_n (Nat.xor_lt_two_pow (n := 8) ha hb)
  split
  · rw [show nI a / 2 = nI (a / 2) from pk_div (d := 2) (by omega) (by decide) (by decide)]
    exact by_n (by omega)
  · exact by_n ha
theorem sw_calc {k : Nat} {x y n h a : Int32} (hx : sm_By x) (hk : k = 1 ∨ k = 4 ∨ k = 5 ∨ k = 6 ∨ k = 7 ∨ k = 8) (post' : Int32 → Prop) (hp : post' (sm_calc k x y n)) : wpX_workedOut post' (nI k) x n y h a := by
  rcases hk with rfl | rfl | rfl | rfl | rfl | rfl
  · repeat (first | refine br_t (by decide) ?_ | refine br_f (by decide) ?_)
    exact hp
  · repeat (first | refine br_t (by decide) ?_ | refine br_f (by decide) ?_)
    exact hp
  · repeat (first | refine br_t (by decide) ?_ | refine br_f (by decide) ?_)
    exact hp
  · repeat (first | refine br_t (by decide) ?_ | refine br_f (by decide) ?_)
    exact hp
  · repeat (first | refine br_t (by decide) ?_ | refine br_f (by decide) ?_)
    exact hp
  · obtain ⟨b, hb, rfl⟩ := hx
    have e : nI b >>> ((1 : Int32) &&& 31) = nI b / 2 := by
      rw [show nI b / 2 = nI (b / 2) from pk_div (d := 2) (by omega) (by decide) (by decide)]
      exact pk_shrN (by omega) _ 1 (by decide)
    repeat (first | refine br_t (by decide) ?_ | refine br_f (by decide) ?_)
    rw [e]
    exact hp
theorem sc_none {k : Nat} {n s : Int32} (hk : k < 14) (hn : k ≠ 2 ∧ k ≠ 3 ∧ k ≠ 12 ∧ k ≠ 13) (post' : Int32 → Prop) (h : post' (-1)) : wpX_cellOfStep post' (nI k) n s :=
  br_f (fun z => hn.1 ((nI_eq (b := 2) (by omega) (by decide)).mp z)) (br_f (fun z => hn.2.1 ((nI_eq (b := 3) (by omega) (by decide)).mp z)) (br_f (fun z => hn.2.2.1 ((nI_eq (b := 12) (by omega) (by decide)).mp z)) (br_f (fun z => hn.2.2.2 ((nI_eq (b := 13) (by omega) (by decide)).mp z)) h)))
theorem sc_n {k nn : Nat} {s : Int32} (hk : k = 2 ∨ k = 3) (hn : nn < 256) (post' : Int32 → Prop) (h : post' (nI (nn % 16))) : wpX_cellOfStep post' (nI k) (nI nn) s := by
  have e : nI nn &&& 15 = nI (nn % 16) := pk_andN (by omega) 4 (by decide)
  rw [← e] at h
  rcases hk with rfl | rfl
  all_goals
    repeat (first | refine br_t (by decide) ?_ | refine br_f (by decide) ?_)
    exact h
theorem sc_s {k s : Nat} {n : Int32} (hk : k = 12 ∨ k = 13) (hs : s < 256) (post' : Int32 → Prop) (h : post' (nI (s % 16))) : wpX_cellOfStep post' (nI k) n (nI s) := by
  have e : nI s &&& 15 = nI (s % 16) := pk_andN (by omega) 4 (by decide)
  rw [← e] at h
  rcases hk with rfl | rfl
  all_goals
    repeat (first | refine br_t (by decide) ?_ | refine br_f (by decide) ?_)
    exact h
end STEP
