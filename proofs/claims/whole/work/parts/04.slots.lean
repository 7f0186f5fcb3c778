/-! 04: what is tripled -/
section SLOTS
variable {oc hl tn : Int32} {cp hc cw sw ob : Nat → Int32}
def sm_w3 (cp : Nat → Int32) (s : Nat) (x : Int32) : Nat → Int32 := fun j => if j / 3 = s then x else cp j
def sm_hp (i : Nat) (val cp : Nat → Int32) : Nat → Int32 := fun j => if j / 3 < i then val (j / 3) else cp j
def sm_hc (i : Nat) (hc : Nat → Int32) : Nat → Int32 := fun s => if s < i then 0 else hc s
def sm_CP (cp hc val : Nat → Int32) : Prop := ∀ s, s < 6 → ∀ j, j < 3 → hc s ≠ nI (j + 1) → cp (s * 3 + j) = val s
theorem xv_voted (post : Int32 → Prop) {s : Nat} {h x : Int32} (hs : s < 6) (H : ∀ j, j < 3 → h ≠ nI (j + 1) → cp (s * 3 + j) = x) (hp : post x) : wpX_voted post (oc, hl, tn, cp, hc, cw, sw, ob) (nI s) := by
  have e0 : nI s * 3 = nI (s * 3) := pk_mul s 3
  have e1 : nI s * 3 + 1 = nI (s * 3 + 1) := by rw [e0, nI_1]
  have e2 : nI s * 3 + 2 = nI (s * 3 + 2) := by rw [e0]; exact nI_add _ 2
  have i0 : vp_in (nI s * 3) 18 := by rw [e0]; exact vp_in_nI (by omega) (by decide)
  have i1 : vp_in (nI s * 3 + 1) 18 := by rw [e1]; exact vp_in_nI (by omega) (by decide)
  have i2 : vp_in (nI s * 3 + 2) 18 := by rw [e2]; exact vp_in_nI (by omega) (by decide)
  have c0 : cp (nI s * 3).toNatClampNeg = cp (s * 3) := by rw [e0, nI_clamp (by omega)]
  have c1 : cp (nI s * 3 + 1).toNatClampNeg = cp (s * 3 + 1) := by rw [e1, nI_clamp (by omega)]
  have c2 : cp (nI s * 3 + 2).toNatClampNeg = cp (s * 3 + 2) := by rw [e2, nI_clamp (by omega)]
  refine ⟨i0, nm_r c0 ⟨i1, nm_r c1 ⟨i2, nm_r c2 ?_⟩⟩⟩
  rw [sm_vote H]
  exact hp
theorem xv_w3 (cp : Nat → Int32) (s : Nat) (x : Int32) : upd (upd (upd cp (s * 3) x) (s * 3 + 1) x) (s * 3 + 2) x = sm_w3 cp s x := by
  funext j
  unfold sm_w3 upd
  by_cases h : j / 3 = s
  · rw [if_pos h]
    have : j = s * 3 ∨ j = s * 3 + 1 ∨ j = s * 3 + 2 := by omega
    rcases this with z | z | z
    · rw [if_neg (by omega), if_neg (by omega), if_pos z]
    · rw [if_neg (by omega), if_pos z]
    · rw [if_pos z]
  · rw [if_neg h, if_neg (by omega), if_neg (by omega), if_neg (by omega)]
theorem xv_write (post : SX → Prop) {s : Nat} (hs : s < 6) (x : Int32) (h : post (oc, hl, tn, sm_w3 cp s x, upd hc s 0, cw, sw, ob)) : wpX_write post (oc, hl, tn, cp, hc, cw, sw, ob) (nI s) x := by
  have e0 : nI s * 3 + 0 = nI (s * 3) := by rw [Int32.add_zero]; exact pk_mul s 3
  have e1 : nI s * 3 + 1 = nI (s * 3 + 1) := by rw [show nI s * 3 = nI (s * 3) from pk_mul s 3, nI_1]
  have e2 : nI s * 3 + 2 = nI (s * 3 + 2) := by rw [show nI s * 3 = nI (s * 3) from pk_mul s 3]; exact nI_add _ 2
  have i0 : vp_in (nI s * 3 + 0) 18 := by rw [e0]; exact vp_in_nI (by omega) (by decide)
  have i1 : vp_in (nI s * 3 + 1) 18 := by rw [e1]; exact vp_in_nI (by omega) (by decide)
  have i2 : vp_in (nI s * 3 + 2) 18 := by rw [e2]; exact vp_in_nI (by omega) (by decide)
  have c0 (f : Nat → Int32) : upd f (nI s * 3 + 0).toNatClampNeg x = upd f (s * 3) x := by rw [e0, nI_clamp (by omega)]
  have c1 (f : Nat → Int32) : upd f (nI s * 3 + 1).toNatClampNeg x = upd f (s * 3 + 1) x := by rw [e1, nI_clamp (by omega)]
  have c2 (f : Nat → Int32) : upd f (nI s * 3 + 2).toNatClampNeg x = upd f (s * 3 + 2) x := by rw [e2, nI_clamp (by omega)]
  have ch : upd hc (nI s).toNatClampNeg 0 = upd hc s 0 := by rw [nI_clamp (by omega)]
  refine ⟨4, br_f (by decide) ⟨i0, nm_r (c0 _) (nm_r (e' := 1) rfl (br_f (by decide) ⟨i1, nm_r (c1 _) (nm_r (e' := 2) rfl (br_f (by decide) ⟨i2, nm_r ((c2 _).trans (xv_w3 cp s x)) (nm_r (e' := 3) rfl (br_t (by decide) ⟨vp_in_nI hs (by decide), nm_r ch h⟩))⟩))⟩))⟩⟩
theorem xv_hp (i : Nat) (val cp : Nat → Int32) : sm_w3 (sm_hp i val cp) i (val i) = sm_hp (i + 1) val cp := by
  funext j
  unfold sm_w3 sm_hp
  by_cases h : j / 3 = i
  · rw [if_pos h, if_pos (by omega), h]
  · rw [if_neg h]
    by_cases h2 : j / 3 < i
    · rw [if_pos h2, if_pos (by omega)]
    · rw [if_neg h2, if_neg (by omega)]
theorem xv_hc (i : Nat) (hc : Nat → Int32) : upd (sm_hc i hc) i 0 = sm_hc (i + 1) hc := by
  funext j
  unfold upd sm_hc
  by_cases h : j = i
  · rw [if_pos h, if_pos (by omega)]
  · rw [if_neg h]
    by_cases h2 : j < i
    · rw [if_pos h2, if_pos (by omega)]
    · rw [if_neg h2, if_neg (by omega)]
theorem xv_hp0 (val cp : Nat → Int32) : sm_hp 0 val cp = cp := by
  funext j
  exact if_neg (by omega)
theorem xv_hc0 (hc : Nat → Int32) : sm_hc 0 hc = hc := by
  funext j
  exact if_neg (by omega)
theorem xv_hpv {val cp hc : Nat → Int32} (C : sm_CP cp hc val) {i : Nat} (hi : i < 6) : ∀ j, j < 3 → hc i ≠ nI (j + 1) → sm_hp i val cp (i * 3 + j) = val i := by
  intro j hj h
  unfold sm_hp
  rw [if_neg (by omega)]
  exact C i hi j hj h
theorem xv_healL (post : SX → Prop) {val : Nat → Int32} (C : sm_CP cp hc val) (h : post (oc, hl, tn, sm_hp 5 val cp, sm_hc 5 hc, cw, sw, ob)) : ∀ k i n, i + k = 5 → k < n → wX_healSlots_2 post n (nI i) oc hl tn (sm_hp i val cp) (sm_hc i hc) cw sw ob := by
  intro k
  induction k with
  | zero =>
    intro i n e hn
    obtain ⟨m, rfl⟩ : ∃ m, n = m + 1 := ⟨n - 1, by omega⟩
    obtain rfl : i = 5 := by omega
    exact br_t (by decide) h
  | succ k ih =>
    intro i n e hn
    obtain ⟨m, rfl⟩ : ∃ m, n = m + 1 := ⟨n - 1, by omega⟩
    refine br_f (nI_ge (b := 5) (by omega) (by decide)) (xv_voted _ (by omega) (xv_hpv C (by omega)) (xv_write _ (by omega) _ ?_))
    rw [xv_hp, xv_hc]
    exact nm_r (nI_1 i) (ih (i + 1) m (by omega) (by omega))
theorem xv_heal (post : SX → Prop) {val : Nat → Int32} (C : sm_CP cp hc val) (h : post (oc, hl, tn, sm_hp 5 val cp, sm_hc 5 hc, cw, sw, ob)) : wpX_healSlots post (oc, hl, tn, cp, hc, cw, sw, ob) := by
  have i := xv_healL post C h 5 0 6 (by omega) (by omega)
  rw [xv_hp0, xv_hc0] at i
  exact ⟨6, i⟩
/-- a slot written -/
theorem sm_CP_w {val val' : Nat → Int32} (C : sm_CP cp hc val) {s : Nat} {x : Int32} (hx : val' s = x) (hv : ∀ t, t ≠ s → val' t = val t) : sm_CP (sm_w3 cp s x) (upd hc s 0) val' := by
  intro t ht j hj h
  unfold sm_w3
  by_cases z : t = s
  · rw [if_pos (by omega), z, hx]
  · rw [if_neg (by omega), hv t z]
    rw [pk_un z] at h
    exact C t ht j hj h
/-- all healed -/
theorem sm_CP_h {val : Nat → Int32} (cp hc : Nat → Int32) : sm_CP (sm_hp 6 val cp) (sm_hc 6 hc) val := by
  intro t ht j hj h
  unfold sm_hp
  have e : (t * 3 + j) / 3 = t := by omega
  rw [if_pos (by omega), e]
/-- the slots' values: registers, place, work -/
def sm_val (rg : Nat → Int32) (at' : Int32) : Nat → Int32 := fun s => if s < 4 then rg s else if s = 4 then at' else 0
theorem sm_val_r {rg : Nat → Int32} {a : Int32} {r : Nat} (h : r < 4) : sm_val rg a r = rg r := if_pos h
theorem sm_val_4 {rg : Nat → Int32} {a : Int32} : sm_val rg a 4 = a := rfl
theorem sm_val_5 {rg : Nat → Int32} {a : Int32} : sm_val rg a 5 = 0 := rfl
end SLOTS
