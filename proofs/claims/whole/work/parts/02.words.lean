/-! 02: words with at most one bit turned over -/
def sm_Gd (b v : Nat) : Prop := (b = 13 ∧ v < 256) ∨ (b = 22 ∧ v < 14336)
theorem sm_Gd_ok {b v : Nat} (h : sm_Gd b v) : sm_ok b v = true := by
  rcases h with ⟨rfl, h⟩ | ⟨rfl, h⟩
  · have := sm_row_ok 256 sm_row13 v h
    rwa [Nat.zero_add] at this
  · have := sm_row_ok 256 (sm_row22b (v / 256) (by omega)) (v % 256) (by omega)
    rwa [Nat.div_add_mod' v 256] at this
theorem sm_Gd_f {b v : Nat} (h : sm_Gd b v) : sm_pa (sm_en b v) b = 0 ∧ sm_sy (sm_en b v) b = 0 ∧ sm_ex (sm_en b v) (b - 1) 1 0 0 = v := by
  have e := sm_Gd_ok h
  unfold sm_ok at e
  rw [Bool.and_eq_true, Bool.and_eq_true] at e
  exact ⟨Nat.eq_of_beq_eq_true e.1, Nat.eq_of_beq_eq_true e.2.1, Nat.eq_of_beq_eq_true e.2.2⟩
theorem sm_Gd_b {b v : Nat} (h : sm_Gd b v) : b = 13 ∨ b = 22 := by
  rcases h with h | h
  · exact Or.inl h.1
  · exact Or.inr h.1
theorem sm_hit {b i : Nat} (hb : b = 13 ∨ b = 22) (hi : i < b) : sm_pa (2 ^ i) b = 1 ∧ sm_sy (2 ^ i) b = i := by
  rcases hb with rfl | rfl
  · exact sm_hit13 i hi
  · exact sm_hit22 i hi
theorem sm_lt1 {x p b : Nat} (hx : x < 2) (hp : p < b) : x * 2 ^ p < 2 ^ b := by
  have h1 : 2 ^ p < 2 ^ b := Nat.pow_lt_pow_right (by decide) hp
  have h2 : x * 2 ^ p ≤ 1 * 2 ^ p := Nat.mul_le_mul_right _ (by omega)
  omega
theorem sm_e1_lt (b : Nat) : ∀ k p w l, p + k ≤ b → w < 2 ^ b → sm_e1 k p w l < 2 ^ b
  | 0, _, _, _, _, hw => hw
  | k + 1, p, w, l, h, hw => by
    unfold sm_e1
    cases sm_ck p
    · exact sm_e1_lt b k (p + 1) _ _ (by omega) (Nat.or_lt_two_pow hw (sm_lt1 (Nat.mod_lt _ (by decide)) (by omega)))
    · exact sm_e1_lt b k (p + 1) w l (by omega) hw
theorem sm_e2_lt (b c : Nat) : ∀ k p w, p + k ≤ b → w < 2 ^ b → sm_e2 c k p w < 2 ^ b
  | 0, _, _, _, hw => hw
  | k + 1, p, w, h, hw => by
    unfold sm_e2
    cases (sm_ck p && !Nat.beq (c &&& p) 0)
    · exact sm_e2_lt b c k (p + 1) w (by omega) hw
    · exact sm_e2_lt b c k (p + 1) _ (by omega) (Nat.or_lt_two_pow hw (Nat.pow_lt_pow_right (by decide) (by omega)))
theorem sm_w1_lt {b : Nat} (v : Nat) (hb : b = 13 ∨ b = 22) : sm_w1 b v < 2 ^ b := sm_e1_lt b _ _ _ _ (by omega) (Nat.two_pow_pos b)
theorem sm_w2_lt {b : Nat} (v : Nat) (hb : b = 13 ∨ b = 22) : sm_w2 b v < 2 ^ b := sm_e2_lt b _ _ _ _ (by omega) (sm_w1_lt v hb)
theorem sm_en_lt {b : Nat} (v : Nat) (hb : b = 13 ∨ b = 22) : sm_en b v < 2 ^ b := by
  refine Nat.or_lt_two_pow (sm_w2_lt v hb) ?_
  have h := sm_pa_2 (sm_w2 b v) b
  have h2 : 2 ^ 1 ≤ 2 ^ b := Nat.pow_le_pow_right (by decide) (by omega)
  omega
theorem sm_b31 {b w : Nat} (hb : b = 13 ∨ b = 22) (h : w < 2 ^ b) : w < 2 ^ 31 := by
  rcases hb with rfl | rfl <;> omega
/-- w is the code word of v, with one bit turned over where s is 1 -/
def sm_Wd (b v w s : Nat) : Prop := sm_Gd b v ∧ ((s = 0 ∧ w = sm_en b v) ∨ (s = 1 ∧ ∃ i, i < b ∧ w = sm_en b v ^^^ 2 ^ i))
theorem sm_Wd_pa {b v w s : Nat} (h : sm_Wd b v w s) : sm_pa w b = s := by
  obtain ⟨g, ⟨rfl, rfl⟩ | ⟨rfl, i, hi, rfl⟩⟩ := h
  · exact (sm_Gd_f g).1
  · rw [sm_pa_x, (sm_Gd_f g).1, (sm_hit (sm_Gd_b g) hi).1]
    rfl
theorem sm_Wd_co {b v w s : Nat} (h : sm_Wd b v w s) : sm_co b w = sm_en b v := by
  have e := sm_Wd_pa h
  unfold sm_co
  rw [e]
  obtain ⟨g, ⟨rfl, rfl⟩ | ⟨rfl, i, hi, rfl⟩⟩ := h
  · rfl
  · show (sm_en b v ^^^ 2 ^ i) ^^^ 2 ^ sm_sy (sm_en b v ^^^ 2 ^ i) b = _
    rw [sm_sy_x, (sm_Gd_f g).2.1, (sm_hit (sm_Gd_b g) hi).2, Nat.zero_xor, Nat.xor_assoc, Nat.xor_self, Nat.xor_zero]
theorem sm_Wd_de {b v w s : Nat} (h : sm_Wd b v w s) : sm_de b w = v := by
  unfold sm_de
  rw [sm_Wd_co h]
  exact (sm_Gd_f h.1).2.2
theorem sm_Wd_lt {b v w s : Nat} (h : sm_Wd b v w s) : w < 2 ^ b := by
  obtain ⟨g, ⟨rfl, rfl⟩ | ⟨rfl, i, hi, rfl⟩⟩ := h
  · exact sm_en_lt v (sm_Gd_b g)
  · exact Nat.xor_lt_two_pow (sm_en_lt v (sm_Gd_b g)) (Nat.pow_lt_pow_right (by decide) hi)
theorem sm_Wd_2 {b v w s : Nat} (h : sm_Wd b v w s) : s < 2 := by
  obtain ⟨g, ⟨rfl, rfl⟩ | ⟨rfl, i, hi, rfl⟩⟩ := h <;> decide
theorem sm_Wd_0 {b v : Nat} (h : sm_Gd b v) : sm_Wd b v (sm_en b v) 0 := ⟨h, Or.inl ⟨rfl, rfl⟩⟩
theorem sm_Wd_1 {b v w i : Nat} (h : sm_Wd b v w 0) (hi : i < b) : sm_Wd b v (w ^^^ 2 ^ i) 1 := by
  obtain ⟨g, ⟨_, rfl⟩ | ⟨z, _⟩⟩ := h
  · exact ⟨g, Or.inr ⟨rfl, i, hi, rfl⟩⟩
  · exact absurd z (by decide)
/-- the same of the class's ints -/
def sm_W (b : Nat) (w v s : Int32) : Prop := ∃ wn vn sn : Nat, w = nI wn ∧ v = nI vn ∧ s = nI sn ∧ sm_Wd b vn wn sn
/-! the vote -/
def bt (x : Int32) (i : Nat) : Bool := x.toBitVec.getLsbD i
theorem b_ext {x y : Int32} (h : ∀ i, i < 32 → bt x i = bt y i) : x = y := Int32.toBitVec_inj.mp (BitVec.eq_of_getLsbD_eq (fun i hi => h i hi))
theorem b_or (x y : Int32) (i : Nat) : bt (x ||| y) i = (bt x i || bt y i) := by unfold bt; rw [Int32.toBitVec_or, BitVec.getLsbD_or]
theorem b_and (x y : Int32) (i : Nat) : bt (x &&& y) i = (bt x i && bt y i) := by unfold bt; rw [Int32.toBitVec_and, BitVec.getLsbD_and]
theorem b_xor (x y : Int32) (i : Nat) : bt (x ^^^ y) i = (bt x i ^^ bt y i) := by unfold bt; rw [Int32.toBitVec_xor, BitVec.getLsbD_xor]
theorem sm_v1 (x y : Int32) : (x &&& x ||| x &&& y) ||| x &&& y = x := by
  apply b_ext; intro i _; rw [b_or, b_or, b_and, b_and]; cases bt x i <;> cases bt y i <;> rfl
theorem sm_v2 (x y : Int32) : (x &&& y ||| x &&& x) ||| y &&& x = x := by
  apply b_ext; intro i _; rw [b_or, b_or, b_and, b_and, b_and]; cases bt x i <;> cases bt y i <;> rfl
theorem sm_v3 (x y : Int32) : (y &&& x ||| y &&& x) ||| x &&& x = x := by
  apply b_ext; intro i _; rw [b_or, b_or, b_and, b_and]; cases bt x i <;> cases bt y i <;> rfl
theorem sm_vote {c : Nat → Int32} {h x : Int32} {a : Nat} (H : ∀ j, j < 3 → h ≠ nI (j + 1) → c (a + j) = x) : (c a &&& c (a + 1) ||| c a &&& c (a + 2)) ||| c (a + 1) &&& c (a + 2) = x := by
  have e0 : h ≠ nI 1 → c a = x := H 0 (by decide)
  have e1 : h ≠ nI 2 → c (a + 1) = x := H 1 (by decide)
  have e2 : h ≠ nI 3 → c (a + 2) = x := H 2 (by decide)
  by_cases h1 : h = nI 1
  · rw [e1 (by rw [h1]; decide), e2 (by rw [h1]; decide)]
    exact sm_v3 x _
  · by_cases h2 : h = nI 2
    · rw [e0 h1, e2 (by rw [h2]; decide)]
      exact sm_v2 x _
    · rw [e0 h1, e1 h2]
      exact sm_v1 x _
