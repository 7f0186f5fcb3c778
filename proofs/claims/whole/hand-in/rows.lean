section
/-! 01: numbers and code words over the naturals -/
theorem pk_us {f : Nat → Int32} {k : Nat} {x : Int32} : upd f k x k = x := if_pos rfl
theorem pk_un {f : Nat → Int32} {k j : Nat} {x : Int32} (h : j ≠ k) : upd f k x j = f j := if_neg h
theorem pk_mul (a b : Nat) : nI a * nI b = nI (a * b) := (Int32.ofNat_mul a b).symm
theorem pk_sub {a b : Nat} (h : b ≤ a) : nI a - nI b = nI (a - b) := by
  obtain ⟨c, rfl⟩ : ∃ c, a = c + b := ⟨a - b, by omega⟩
  rw [← nI_add, Int32.add_sub_cancel, Nat.add_sub_cancel]
theorem pk_div {a d : Nat} (ha : a < 2 ^ 31) (h0 : 0 < d) (hd : d < 2 ^ 31) : nI a / nI d = nI (a / d) := by
  apply Int32.toInt_inj.mp
  rw [lg_idiv_nonneg (by rw [nI_toInt ha]; omega) (by rw [nI_toInt hd]; omega), nI_toInt ha, nI_toInt hd, nI_toInt (Nat.lt_of_le_of_lt (Nat.div_le_self a d) ha)]
  first | rfl | exact (Int.natCast_ediv _ _).symm
theorem pk_rem {a d : Nat} (ha : a < 2 ^ 31) (h0 : 0 < d) (hd : d < 2 ^ 31) : nI a - nI a / nI d * nI d = nI (a % d) := by
  rw [pk_div ha h0 hd, pk_mul, pk_sub (Nat.div_mul_le_self a d)]
  exact congrArg nI (by have := Nat.div_add_mod' a d; omega)
theorem pk_ix (x : Int32) {n : Nat} (hn : n < 2 ^ 31) : x < 0 ∨ nI n ≤ x ∨ ∃ j : Nat, j < n ∧ x = nI j := by
  by_cases h : x < 0
  · exact Or.inl h
  · obtain ⟨j, hj, rfl⟩ := nI_of h
    by_cases h2 : j < n
    · exact Or.inr (Or.inr ⟨j, h2, rfl⟩)
    · exact Or.inr (Or.inl (nI_le (by omega) hj))
theorem pk_tn {n : Nat} (h : n < 2 ^ 32) : (nI n).toBitVec.toNat = n := Nat.mod_eq_of_lt h
theorem pk_and (x : Int32) {m : Int32} (k : Nat) (hm : m.toBitVec.toNat = 2 ^ k - 1) : x &&& m = nI (x.toBitVec.toNat % 2 ^ k) := by
  apply Int32.toBitVec_inj.mp
  apply BitVec.eq_of_toNat_eq
  rw [Int32.toBitVec_and, BitVec.toNat_and, hm, Nat.and_two_pow_sub_one_eq_mod]
  show _ = (BitVec.ofNat 32 _).toNat
  rw [BitVec.toNat_ofNat]
  exact (Nat.mod_eq_of_lt (Nat.lt_of_le_of_lt (Nat.mod_le _ _) x.toBitVec.isLt)).symm
theorem pk_andN {n : Nat} (h : n < 2 ^ 32) {m : Int32} (k : Nat) (hm : m.toBitVec.toNat = 2 ^ k - 1) : nI n &&& m = nI (n % 2 ^ k) := by
  rw [pk_and _ k hm, pk_tn h]
theorem pk_shl (a s : Int32) (k : Nat) (hs : (s.toBitVec.smod 32).toNat = k) : (a <<< s).toBitVec.toNat = a.toBitVec.toNat * 2 ^ k % 2 ^ 32 := by
  show (a.toBitVec <<< (s.toBitVec.smod 32).toNat).toNat = _
  rw [hs, BitVec.toNat_shiftLeft, Nat.shiftLeft_eq]
theorem pk_shlN {n : Nat} (s : Int32) (k : Nat) (hs : (s.toBitVec.smod 32).toNat = k) (h : n * 2 ^ k < 2 ^ 32) : nI n <<< s = nI (n * 2 ^ k) := by
  apply Int32.toBitVec_inj.mp
  apply BitVec.eq_of_toNat_eq
  have hn : n < 2 ^ 32 := Nat.lt_of_le_of_lt (Nat.le_mul_of_pos_right n (Nat.two_pow_pos k)) h
  rw [pk_shl _ _ k hs, pk_tn hn, pk_tn h, Nat.mod_eq_of_lt h]
theorem pk_shr (a s : Int32) (k : Nat) (hs : (s.toBitVec.smod 32).toNat = k) : (a >>> s).toInt = a.toInt >>> k := by
  show (a.toBitVec.sshiftRight (s.toBitVec.smod 32).toNat).toInt = _
  rw [hs, BitVec.toInt_sshiftRight]
  rfl
theorem pk_shrN {n : Nat} (h : n < 2 ^ 31) (s : Int32) (k : Nat) (hs : (s.toBitVec.smod 32).toNat = k) : nI n >>> s = nI (n / 2 ^ k) := by
  apply Int32.toInt_inj.mp
  have h2 : n / 2 ^ k ≤ n := Nat.div_le_self _ _
  rw [pk_shr _ _ k hs, nI_toInt h, nI_toInt (by omega), Int.shiftRight_eq_div_pow]
  rfl
theorem s_l : ∀ n, n < 32 → ((nI n &&& 31).toBitVec.smod 32).toNat = n := by decide +kernel
theorem nx_and (a b : Nat) : nI a &&& nI b = nI (a &&& b) := by
  apply Int32.toBitVec_inj.1
  show BitVec.ofNat 32 a &&& BitVec.ofNat 32 b = BitVec.ofNat 32 (a &&& b)
  apply BitVec.eq_of_getLsbD_eq
  intro i hi
  simp [hi]
theorem nx_or (a b : Nat) : nI a ||| nI b = nI (a ||| b) := by
  apply Int32.toBitVec_inj.1
  show BitVec.ofNat 32 a ||| BitVec.ofNat 32 b = BitVec.ofNat 32 (a ||| b)
  apply BitVec.eq_of_getLsbD_eq
  intro i hi
  simp [hi]
theorem nx_xor (a b : Nat) : nI a ^^^ nI b = nI (a ^^^ b) := by
  apply Int32.toBitVec_inj.1
  show BitVec.ofNat 32 a ^^^ BitVec.ofNat 32 b = BitVec.ofNat 32 (a ^^^ b)
  apply BitVec.eq_of_getLsbD_eq
  intro i hi
  simp [hi]
/-- bit p of w, as the class takes it -/
theorem sm_bit {w p : Nat} (hw : w < 2 ^ 31) (hp : p < 32) : nI w >>> (nI p &&& 31) &&& 1 = nI (w / 2 ^ p % 2) := by
  rw [pk_shrN hw _ p (s_l p hp)]
  exact pk_andN (Nat.lt_of_le_of_lt (Nat.div_le_self _ _) (by omega)) 1 (by decide)
theorem sm_shl1 {x p : Nat} (hx : x < 2) (hp : p < 32) : nI x <<< (nI p &&& 31) = nI (x * 2 ^ p) := by
  refine pk_shlN _ p (s_l p hp) ?_
  have h : 2 ^ p ≤ 2 ^ 31 := Nat.pow_le_pow_right (by decide) (by omega)
  have h2 : x * 2 ^ p ≤ 1 * 2 ^ p := Nat.mul_le_mul_right _ (by omega)
  omega
/-! parity, syndrome, encoding, extraction -/
def sm_pa (w : Nat) : Nat → Nat
  | 0 => 0
  | n + 1 => sm_pa w n ^^^ (w / 2 ^ n % 2)
def sm_sy (w : Nat) : Nat → Nat
  | 0 => 0
  | n + 1 => sm_sy w n ^^^ (w / 2 ^ n % 2 * n)
def sm_ck (p : Nat) : Bool := Nat.beq (p &&& (p - 1)) 0
def sm_e1 : Nat → Nat → Nat → Nat → Nat
  | 0, _, w, _ => w
  | k + 1, p, w, l => bif sm_ck p then sm_e1 k (p + 1) w l else sm_e1 k (p + 1) (w ||| l % 2 * 2 ^ p) (l / 2)
def sm_e2 (c : Nat) : Nat → Nat → Nat → Nat
  | 0, _, w => w
  | k + 1, p, w => bif sm_ck p && !Nat.beq (c &&& p) 0 then sm_e2 c k (p + 1) (w ||| 2 ^ p) else sm_e2 c k (p + 1) w
def sm_ex (r : Nat) : Nat → Nat → Nat → Nat → Nat
  | 0, _, v, _ => v
  | k + 1, p, v, t => bif sm_ck p then sm_ex r k (p + 1) v t else sm_ex r k (p + 1) (v ||| r / 2 ^ p % 2 * 2 ^ t) (t + 1)
def sm_w1 (b v : Nat) : Nat := sm_e1 (b - 1) 1 0 v
def sm_w2 (b v : Nat) : Nat := sm_e2 (sm_sy (sm_w1 b v) b) (b - 1) 1 (sm_w1 b v)
def sm_en (b v : Nat) : Nat := sm_w2 b v ||| sm_pa (sm_w2 b v) b
def sm_co (b w : Nat) : Nat := bif Nat.beq (sm_pa w b) 0 then w else w ^^^ 2 ^ sm_sy w b
def sm_de (b w : Nat) : Nat := sm_ex (sm_co b w) (b - 1) 1 0 0
/-! xor goes through parity and syndrome -/
theorem sm_x4 (p q x y : Nat) : (p ^^^ q) ^^^ (x ^^^ y) = (p ^^^ x) ^^^ (q ^^^ y) := by
  rw [Nat.xor_assoc p q, ← Nat.xor_assoc q x y, Nat.xor_comm q x, Nat.xor_assoc x q y, ← Nat.xor_assoc p x]
theorem sm_bx (a b n : Nat) : (a ^^^ b) / 2 ^ n % 2 = (a / 2 ^ n % 2) ^^^ (b / 2 ^ n % 2) := by
  rw [← Nat.toNat_testBit, ← Nat.toNat_testBit, ← Nat.toNat_testBit, Nat.testBit_xor]
  cases a.testBit n <;> cases b.testBit n <;> rfl
theorem sm_bxm (a b n : Nat) : (a ^^^ b) / 2 ^ n % 2 * n = (a / 2 ^ n % 2 * n) ^^^ (b / 2 ^ n % 2 * n) := by
  rw [sm_bx]
  have ha : a / 2 ^ n % 2 = 0 ∨ a / 2 ^ n % 2 = 1 := by omega
  have hb : b / 2 ^ n % 2 = 0 ∨ b / 2 ^ n % 2 = 1 := by omega
  rcases ha with ha | ha <;> rcases hb with hb | hb <;> rw [ha, hb] <;> simp
theorem sm_pa_x (a b : Nat) : ∀ n, sm_pa (a ^^^ b) n = sm_pa a n ^^^ sm_pa b n
  | 0 => by simp [sm_pa]
  | n + 1 => by
    show sm_pa (a ^^^ b) n ^^^ ((a ^^^ b) / 2 ^ n % 2) = (sm_pa a n ^^^ (a / 2 ^ n % 2)) ^^^ (sm_pa b n ^^^ (b / 2 ^ n % 2))
    rw [sm_pa_x a b n, sm_bx, sm_x4]
theorem sm_sy_x (a b : Nat) : ∀ n, sm_sy (a ^^^ b) n = sm_sy a n ^^^ sm_sy b n
  | 0 => by simp [sm_sy]
  | n + 1 => by
    show sm_sy (a ^^^ b) n ^^^ ((a ^^^ b) / 2 ^ n % 2 * n) = (sm_sy a n ^^^ (a / 2 ^ n % 2 * n)) ^^^ (sm_sy b n ^^^ (b / 2 ^ n % 2 * n))
    rw [sm_sy_x a b n, sm_bxm, sm_x4]
theorem sm_pa_2 (w : Nat) : ∀ n, sm_pa w n < 2
  | 0 => by
    show 0 < 2
    decide
  | n + 1 => Nat.xor_lt_two_pow (n := 1) (sm_pa_2 w n) (Nat.mod_lt _ (by decide))
theorem sm_sy_32 (w : Nat) : ∀ n, n ≤ 32 → sm_sy w n < 32
  | 0, _ => by
    show 0 < 32
    decide
  | n + 1, h => Nat.xor_lt_two_pow (n := 5) (sm_sy_32 w n (by omega)) (by
      have hb : w / 2 ^ n % 2 = 0 ∨ w / 2 ^ n % 2 = 1 := by omega
      rcases hb with hb | hb <;> rw [hb] <;> omega)
theorem sm_hit13 : ∀ i, i < 13 → sm_pa (2 ^ i) 13 = 1 ∧ sm_sy (2 ^ i) 13 = i := by decide +kernel
theorem sm_hit22 : ∀ i, i < 22 → sm_pa (2 ^ i) 22 = 1 ∧ sm_sy (2 ^ i) 22 = i := by decide +kernel
/-! every word of the code: no syndrome, even, and it holds its value -/
def sm_ok (b v : Nat) : Bool := Nat.beq (sm_pa (sm_en b v) b) 0 && (Nat.beq (sm_sy (sm_en b v) b) 0 && Nat.beq (sm_ex (sm_en b v) (b - 1) 1 0 0) v)
def sm_row (b h : Nat) : Nat → Bool
  | 0 => true
  | n + 1 => sm_ok b (h + n) && sm_row b h n
theorem sm_row_ok {b h : Nat} : ∀ n, sm_row b h n = true → ∀ j, j < n → sm_ok b (h + j) = true
  | 0, _, j, hj => absurd hj (by omega)
  | n + 1, e, j, hj => by
    have e' : (sm_ok b (h + n) && sm_row b h n) = true := e
    rw [Bool.and_eq_true] at e'
    by_cases q : j = n
    · rw [q]; exact e'.1
    · exact sm_row_ok n e'.2 j (by omega)
theorem sm_row13 : sm_row 13 0 256 = true := by decide +kernel
end
section
/-! 01b: the 14336 steps' code words, looked at by 256 -/
theorem sm_r22_0 : sm_row 22 (0 * 256) 256 = true := by decide +kernel
theorem sm_r22_1 : sm_row 22 (1 * 256) 256 = true := by decide +kernel
theorem sm_r22_2 : sm_row 22 (2 * 256) 256 = true := by decide +kernel
theorem sm_r22_3 : sm_row 22 (3 * 256) 256 = true := by decide +kernel
theorem sm_r22_4 : sm_row 22 (4 * 256) 256 = true := by decide +kernel
theorem sm_r22_5 : sm_row 22 (5 * 256) 256 = true := by decide +kernel
theorem sm_r22_6 : sm_row 22 (6 * 256) 256 = true := by decide +kernel
theorem sm_r22_7 : sm_row 22 (7 * 256) 256 = true := by decide +kernel
theorem sm_r22_8 : sm_row 22 (8 * 256) 256 = true := by decide +kernel
theorem sm_r22_9 : sm_row 22 (9 * 256) 256 = true := by decide +kernel
theorem sm_r22_10 : sm_row 22 (10 * 256) 256 = true := by decide +kernel
theorem sm_r22_11 : sm_row 22 (11 * 256) 256 = true := by decide +kernel
theorem sm_r22_12 : sm_row 22 (12 * 256) 256 = true := by decide +kernel
theorem sm_r22_13 : sm_row 22 (13 * 256) 256 = true := by decide +kernel
theorem sm_r22_14 : sm_row 22 (14 * 256) 256 = true := by decide +kernel
theorem sm_r22_15 : sm_row 22 (15 * 256) 256 = true := by decide +kernel
theorem sm_r22_16 : sm_row 22 (16 * 256) 256 = true := by decide +kernel
theorem sm_r22_17 : sm_row 22 (17 * 256) 256 = true := by decide +kernel
theorem sm_r22_18 : sm_row 22 (18 * 256) 256 = true := by decide +kernel
theorem sm_r22_19 : sm_row 22 (19 * 256) 256 = true := by decide +kernel
theorem sm_r22_20 : sm_row 22 (20 * 256) 256 = true := by decide +kernel
theorem sm_r22_21 : sm_row 22 (21 * 256) 256 = true := by decide +kernel
theorem sm_r22_22 : sm_row 22 (22 * 256) 256 = true := by decide +kernel
theorem sm_r22_23 : sm_row 22 (23 * 256) 256 = true := by decide +kernel
theorem sm_r22_24 : sm_row 22 (24 * 256) 256 = true := by decide +kernel
theorem sm_r22_25 : sm_row 22 (25 * 256) 256 = true := by decide +kernel
theorem sm_r22_26 : sm_row 22 (26 * 256) 256 = true := by decide +kernel
theorem sm_r22_27 : sm_row 22 (27 * 256) 256 = true := by decide +kernel
theorem sm_r22_28 : sm_row 22 (28 * 256) 256 = true := by decide +kernel
theorem sm_r22_29 : sm_row 22 (29 * 256) 256 = true := by decide +kernel
theorem sm_r22_30 : sm_row 22 (30 * 256) 256 = true := by decide +kernel
theorem sm_r22_31 : sm_row 22 (31 * 256) 256 = true := by decide +kernel
theorem sm_r22_32 : sm_row 22 (32 * 256) 256 = true := by decide +kernel
theorem sm_r22_33 : sm_row 22 (33 * 256) 256 = true := by decide +kernel
theorem sm_r22_34 : sm_row 22 (34 * 256) 256 = true := by decide +kernel
theorem sm_r22_35 : sm_row 22 (35 * 256) 256 = true := by decide +kernel
theorem sm_r22_36 : sm_row 22 (36 * 256) 256 = true := by decide +kernel
theorem sm_r22_37 : sm_row 22 (37 * 256) 256 = true := by decide +kernel
theorem sm_r22_38 : sm_row 22 (38 * 256) 256 = true := by decide +kernel
theorem sm_r22_39 : sm_row 22 (39 * 256) 256 = true := by decide +kernel
theorem sm_r22_40 : sm_row 22 (40 * 256) 256 = true := by decide +kernel
theorem sm_r22_41 : sm_row 22 (41 * 256) 256 = true := by decide +kernel
theorem sm_r22_42 : sm_row 22 (42 * 256) 256 = true := by decide +kernel
theorem sm_r22_43 : sm_row 22 (43 * 256) 256 = true := by decide +kernel
theorem sm_r22_44 : sm_row 22 (44 * 256) 256 = true := by decide +kernel
theorem sm_r22_45 : sm_row 22 (45 * 256) 256 = true := by decide +kernel
theorem sm_r22_46 : sm_row 22 (46 * 256) 256 = true := by decide +kernel
theorem sm_r22_47 : sm_row 22 (47 * 256) 256 = true := by decide +kernel
theorem sm_r22_48 : sm_row 22 (48 * 256) 256 = true := by decide +kernel
theorem sm_r22_49 : sm_row 22 (49 * 256) 256 = true := by decide +kernel
theorem sm_r22_50 : sm_row 22 (50 * 256) 256 = true := by decide +kernel
theorem sm_r22_51 : sm_row 22 (51 * 256) 256 = true := by decide +kernel
theorem sm_r22_52 : sm_row 22 (52 * 256) 256 = true := by decide +kernel
theorem sm_r22_53 : sm_row 22 (53 * 256) 256 = true := by decide +kernel
theorem sm_r22_54 : sm_row 22 (54 * 256) 256 = true := by decide +kernel
theorem sm_r22_55 : sm_row 22 (55 * 256) 256 = true := by decide +kernel
theorem sm_row22b : ∀ h, h < 56 → sm_row 22 (h * 256) 256 = true
  | 0, _ => sm_r22_0
  | 1, _ => sm_r22_1
  | 2, _ => sm_r22_2
  | 3, _ => sm_r22_3
  | 4, _ => sm_r22_4
  | 5, _ => sm_r22_5
  | 6, _ => sm_r22_6
  | 7, _ => sm_r22_7
  | 8, _ => sm_r22_8
  | 9, _ => sm_r22_9
  | 10, _ => sm_r22_10
  | 11, _ => sm_r22_11
  | 12, _ => sm_r22_12
  | 13, _ => sm_r22_13
  | 14, _ => sm_r22_14
  | 15, _ => sm_r22_15
  | 16, _ => sm_r22_16
  | 17, _ => sm_r22_17
  | 18, _ => sm_r22_18
  | 19, _ => sm_r22_19
  | 20, _ => sm_r22_20
  | 21, _ => sm_r22_21
  | 22, _ => sm_r22_22
  | 23, _ => sm_r22_23
  | 24, _ => sm_r22_24
  | 25, _ => sm_r22_25
  | 26, _ => sm_r22_26
  | 27, _ => sm_r22_27
  | 28, _ => sm_r22_28
  | 29, _ => sm_r22_29
  | 30, _ => sm_r22_30
  | 31, _ => sm_r22_31
  | 32, _ => sm_r22_32
  | 33, _ => sm_r22_33
  | 34, _ => sm_r22_34
  | 35, _ => sm_r22_35
  | 36, _ => sm_r22_36
  | 37, _ => sm_r22_37
  | 38, _ => sm_r22_38
  | 39, _ => sm_r22_39
  | 40, _ => sm_r22_40
  | 41, _ => sm_r22_41
  | 42, _ => sm_r22_42
  | 43, _ => sm_r22_43
  | 44, _ => sm_r22_44
  | 45, _ => sm_r22_45
  | 46, _ => sm_r22_46
  | 47, _ => sm_r22_47
  | 48, _ => sm_r22_48
  | 49, _ => sm_r22_49
  | 50, _ => sm_r22_50
  | 51, _ => sm_r22_51
  | 52, _ => sm_r22_52
  | 53, _ => sm_r22_53
  | 54, _ => sm_r22_54
  | 55, _ => sm_r22_55
  | n + 56, z => absurd z (by omega)
end
section
/-! 02: words with at most one bit turned over -/
def sm_Gd (b v : Nat) : Prop := (b = 13 ∧ v < 256) ∨ (b = 22 ∧ v < 14336)
theorem sm_Gd_ok {b v : Nat} (h : sm_Gd b v) : sm_ok b v = true := by
  rcases h with ⟨rfl, h⟩ | ⟨rfl, h⟩
  · have := sm_row_ok 256 sm_row13 v h
    rwa [Nat.zero_add] at this
  · have := sm_row_ok 256 (sm_row22b (v / 256) (by omega)) (v % 256) (by omega)
    rwa [Nat.div_add_mod' v 256] at this
theorem sm_Gd_f {b v : Nat} (h : sm_Gd b v) : sm_pa (sm_en b v) b = 0 ∧ sm_sy (sm_en b v) b = 0 ∧ sm_ex (sm_en b v) (b - 1) 1 0 0 = v := by
  have e := sm_Gd_ok h
  unfold sm_ok at e
  rw [Bool.and_eq_true, Bool.and_eq_true] at e
  exact ⟨Nat.eq_of_beq_eq_true e.1, Nat.eq_of_beq_eq_true e.2.1, Nat.eq_of_beq_eq_true e.2.2⟩
theorem sm_Gd_b {b v : Nat} (h : sm_Gd b v) : b = 13 ∨ b = 22 := by
  rcases h with h | h
  · exact Or.inl h.1
  · exact Or.inr h.1
theorem sm_hit {b i : Nat} (hb : b = 13 ∨ b = 22) (hi : i < b) : sm_pa (2 ^ i) b = 1 ∧ sm_sy (2 ^ i) b = i := by
  rcases hb with rfl | rfl
  · exact sm_hit13 i hi
  · exact sm_hit22 i hi
theorem sm_lt1 {x p b : Nat} (hx : x < 2) (hp : p < b) : x * 2 ^ p < 2 ^ b := by
  have h1 : 2 ^ p < 2 ^ b := Nat.pow_lt_pow_right (by decide) hp
  have h2 : x * 2 ^ p ≤ 1 * 2 ^ p := Nat.mul_le_mul_right _ (by omega)
  omega
theorem sm_e1_lt (b : Nat) : ∀ k p w l, p + k ≤ b → w < 2 ^ b → sm_e1 k p w l < 2 ^ b
  | 0, _, _, _, _, hw => hw
  | k + 1, p, w, l, h, hw => by
    unfold sm_e1
    cases sm_ck p
    · exact sm_e1_lt b k (p + 1) _ _ (by omega) (Nat.or_lt_two_pow hw (sm_lt1 (Nat.mod_lt _ (by decide)) (by omega)))
    · exact sm_e1_lt b k (p + 1) w l (by omega) hw
theorem sm_e2_lt (b c : Nat) : ∀ k p w, p + k ≤ b → w < 2 ^ b → sm_e2 c k p w < 2 ^ b
  | 0, _, _, _, hw => hw
  | k + 1, p, w, h, hw => by
    unfold sm_e2
    cases (sm_ck p && !Nat.beq (c &&& p) 0)
    · exact sm_e2_lt b c k (p + 1) w (by omega) hw
    · exact sm_e2_lt b c k (p + 1) _ (by omega) (Nat.or_lt_two_pow hw (Nat.pow_lt_pow_right (by decide) (by omega)))
theorem sm_w1_lt {b : Nat} (v : Nat) (hb : b = 13 ∨ b = 22) : sm_w1 b v < 2 ^ b := sm_e1_lt b _ _ _ _ (by omega) (Nat.two_pow_pos b)
theorem sm_w2_lt {b : Nat} (v : Nat) (hb : b = 13 ∨ b = 22) : sm_w2 b v < 2 ^ b := sm_e2_lt b _ _ _ _ (by omega) (sm_w1_lt v hb)
theorem sm_en_lt {b : Nat} (v : Nat) (hb : b = 13 ∨ b = 22) : sm_en b v < 2 ^ b := by
  refine Nat.or_lt_two_pow (sm_w2_lt v hb) ?_
  have h := sm_pa_2 (sm_w2 b v) b
  have h2 : 2 ^ 1 ≤ 2 ^ b := Nat.pow_le_pow_right (by decide) (by omega)
  omega
theorem sm_b31 {b w : Nat} (hb : b = 13 ∨ b = 22) (h : w < 2 ^ b) : w < 2 ^ 31 := by
  rcases hb with rfl | rfl <;> omega
/-- w is the code word of v, with one bit turned over where s is 1 -/
def sm_Wd (b v w s : Nat) : Prop := sm_Gd b v ∧ ((s = 0 ∧ w = sm_en b v) ∨ (s = 1 ∧ ∃ i, i < b ∧ w = sm_en b v ^^^ 2 ^ i))
theorem sm_Wd_pa {b v w s : Nat} (h : sm_Wd b v w s) : sm_pa w b = s := by
  obtain ⟨g, ⟨rfl, rfl⟩ | ⟨rfl, i, hi, rfl⟩⟩ := h
  · exact (sm_Gd_f g).1
  · rw [sm_pa_x, (sm_Gd_f g).1, (sm_hit (sm_Gd_b g) hi).1]
    rfl
theorem sm_Wd_co {b v w s : Nat} (h : sm_Wd b v w s) : sm_co b w = sm_en b v := by
  have e := sm_Wd_pa h
  unfold sm_co
  rw [e]
  obtain ⟨g, ⟨rfl, rfl⟩ | ⟨rfl, i, hi, rfl⟩⟩ := h
  · rfl
  · show (sm_en b v ^^^ 2 ^ i) ^^^ 2 ^ sm_sy (sm_en b v ^^^ 2 ^ i) b = _
    rw [sm_sy_x, (sm_Gd_f g).2.1, (sm_hit (sm_Gd_b g) hi).2, Nat.zero_xor, Nat.xor_assoc, Nat.xor_self, Nat.xor_zero]
theorem sm_Wd_de {b v w s : Nat} (h : sm_Wd b v w s) : sm_de b w = v := by
  unfold sm_de
  rw [sm_Wd_co h]
  exact (sm_Gd_f h.1).2.2
theorem sm_Wd_lt {b v w s : Nat} (h : sm_Wd b v w s) : w < 2 ^ b := by
  obtain ⟨g, ⟨rfl, rfl⟩ | ⟨rfl, i, hi, rfl⟩⟩ := h
  · exact sm_en_lt v (sm_Gd_b g)
  · exact Nat.xor_lt_two_pow (sm_en_lt v (sm_Gd_b g)) (Nat.pow_lt_pow_right (by decide) hi)
theorem sm_Wd_2 {b v w s : Nat} (h : sm_Wd b v w s) : s < 2 := by
  obtain ⟨g, ⟨rfl, rfl⟩ | ⟨rfl, i, hi, rfl⟩⟩ := h <;> decide
theorem sm_Wd_0 {b v : Nat} (h : sm_Gd b v) : sm_Wd b v (sm_en b v) 0 := ⟨h, Or.inl ⟨rfl, rfl⟩⟩
theorem sm_Wd_1 {b v w i : Nat} (h : sm_Wd b v w 0) (hi : i < b) : sm_Wd b v (w ^^^ 2 ^ i) 1 := by
  obtain ⟨g, ⟨_, rfl⟩ | ⟨z, _⟩⟩ := h
  · exact ⟨g, Or.inr ⟨rfl, i, hi, rfl⟩⟩
  · exact absurd z (by decide)
/-- the same of the class's ints -/
def sm_W (b : Nat) (w v s : Int32) : Prop := ∃ wn vn sn : Nat, w = nI wn ∧ v = nI vn ∧ s = nI sn ∧ sm_Wd b vn wn sn
/-! the vote -/
def bt (x : Int32) (i : Nat) : Bool := x.toBitVec.getLsbD i
theorem b_ext {x y : Int32} (h : ∀ i, i < 32 → bt x i = bt y i) : x = y := Int32.toBitVec_inj.mp (BitVec.eq_of_getLsbD_eq (fun i hi => h i hi))
theorem b_or (x y : Int32) (i : Nat) : bt (x ||| y) i = (bt x i || bt y i) := by unfold bt; rw [Int32.toBitVec_or, BitVec.getLsbD_or]
theorem b_and (x y : Int32) (i : Nat) : bt (x &&& y) i = (bt x i && bt y i) := by unfold bt; rw [Int32.toBitVec_and, BitVec.getLsbD_and]
theorem b_xor (x y : Int32) (i : Nat) : bt (x ^^^ y) i = (bt x i ^^ bt y i) := by unfold bt; rw [Int32.toBitVec_xor, BitVec.getLsbD_xor]
theorem sm_v1 (x y : Int32) : (x &&& x ||| x &&& y) ||| x &&& y = x := by
  apply b_ext; intro i _; rw [b_or, b_or, b_and, b_and]; cases bt x i <;> cases bt y i <;> rfl
theorem sm_v2 (x y : Int32) : (x &&& y ||| x &&& x) ||| y &&& x = x := by
  apply b_ext; intro i _; rw [b_or, b_or, b_and, b_and, b_and]; cases bt x i <;> cases bt y i <;> rfl
theorem sm_v3 (x y : Int32) : (y &&& x ||| y &&& x) ||| x &&& x = x := by
  apply b_ext; intro i _; rw [b_or, b_or, b_and, b_and]; cases bt x i <;> cases bt y i <;> rfl
theorem sm_vote {c : Nat → Int32} {h x : Int32} {a : Nat} (H : ∀ j, j < 3 → h ≠ nI (j + 1) → c (a + j) = x) : (c a &&& c (a + 1) ||| c a &&& c (a + 2)) ||| c (a + 1) &&& c (a + 2) = x := by
  have e0 : h ≠ nI 1 → c a = x := H 0 (by decide)
  have e1 : h ≠ nI 2 → c (a + 1) = x := H 1 (by decide)
  have e2 : h ≠ nI 3 → c (a + 2) = x := H 2 (by decide)
  by_cases h1 : h = nI 1
  · rw [e1 (by rw [h1]; decide), e2 (by rw [h1]; decide)]
    exact sm_v3 x _
  · by_cases h2 : h = nI 2
    · rw [e0 h1, e2 (by rw [h2]; decide)]
      exact sm_v2 x _
    · rw [e0 h1, e1 h2]
      exact sm_v1 x _
end
section
/-! 03: the class's code methods against the pure ones -/
theorem xw_par (post : Int32 → Prop) {w b : Nat} (hw : w < 2 ^ 31) (hb : b ≤ 31) (h : post (nI (sm_pa w b))) : ∀ k p n, p + k = b → k < n → wX_parity_4 post (nI w) (nI b) n (nI (sm_pa w p)) (nI p) := by
  intro k
  induction k with
  | zero =>
    intro p n e hn
    obtain ⟨m, rfl⟩ : ∃ m, n = m + 1 := ⟨n - 1, by omega⟩
    obtain rfl : p = b := by omega
    exact br_t (nI_le (Nat.le_refl _) (by omega)) h
  | succ k ih =>
    intro p n e hn
    obtain ⟨m, rfl⟩ : ∃ m, n = m + 1 := ⟨n - 1, by omega⟩
    refine br_f (nI_ge (by omega) (by omega)) (nm_r (e' := nI (sm_pa w (p + 1))) ?_ (nm_r (nI_1 p) (ih (p + 1) m (by omega) (by omega))))
    rw [sm_bit hw (by omega), nx_xor]
    rfl
theorem xw_parity (post : Int32 → Prop) {w b : Nat} (hw : w < 2 ^ 31) (hb : b ≤ 31) (h : post (nI (sm_pa w b))) : wpX_parity post (nI w) (nI b) := ⟨b + 1, xw_par post hw hb h b 0 (b + 1) (by omega) (by omega)⟩
theorem xw_syn (post : Int32 → Prop) {w b : Nat} (hw : w < 2 ^ 31) (hb : b ≤ 31) (h : post (nI (sm_sy w b))) : ∀ k p n, p + k = b → k < n → wX_syndrome_4 post (nI w) (nI b) n (nI (sm_sy w p)) (nI p) := by
  intro k
  induction k with
  | zero =>
    intro p n e hn
    obtain ⟨m, rfl⟩ : ∃ m, n = m + 1 := ⟨n - 1, by omega⟩
    obtain rfl : p = b := by omega
    exact br_t (nI_le (Nat.le_refl _) (by omega)) h
  | succ k ih =>
    intro p n e hn
    obtain ⟨m, rfl⟩ : ∃ m, n = m + 1 := ⟨n - 1, by omega⟩
    have i := ih (p + 1) m (by omega) (by omega)
    have q : sm_sy w (p + 1) = sm_sy w p ^^^ (w / 2 ^ p % 2 * p) := rfl
    have hbit := sm_bit hw (p := p) (by omega)
    have h2 : w / 2 ^ p % 2 = 0 ∨ w / 2 ^ p % 2 = 1 := by omega
    rcases h2 with z | z
    · rw [z, Nat.zero_mul, Nat.xor_zero] at q
      rw [q] at i
      exact br_f (nI_ge (by omega) (by omega)) (br_t (by rw [hbit, z]; rfl) (nm_r (nI_1 p) i))
    · rw [z, Nat.one_mul] at q
      refine br_f (nI_ge (by omega) (by omega)) (br_f (by rw [hbit, z]; decide) (nm_r (e' := nI (sm_sy w (p + 1))) ?_ (nm_r (nI_1 p) i)))
      rw [q, nx_xor]
theorem xw_sy1 (w : Nat) : sm_sy w 1 = 0 := by
  show 0 ^^^ (w / 2 ^ 0 % 2 * 0) = 0
  rw [Nat.mul_zero]
  rfl
theorem xw_syndrome (post : Int32 → Prop) {w b : Nat} (hw : w < 2 ^ 31) (h1 : 1 ≤ b) (hb : b ≤ 31) (h : post (nI (sm_sy w b))) : wpX_syndrome post (nI w) (nI b) := by
  have i := xw_syn post hw hb h (b - 1) 1 (b + 1) (by omega) (by omega)
  rw [xw_sy1] at i
  exact ⟨b + 1, i⟩
theorem xw_chk (post : Int32 → Prop) {p : Nat} (h1 : 1 ≤ p) (hp : p < 2 ^ 31) (ht : sm_ck p = true → post 1) (hf : sm_ck p = false → post 0) : wpX_isCheckPosition post (nI p) := by
  have e : (nI p &&& (nI p - 1) = 0) ↔ sm_ck p = true := by
    obtain ⟨q, rfl⟩ : ∃ q, p = q + 1 := ⟨p - 1, by omega⟩
    rw [nI_pred, nx_and, ← nI_0, nI_eq (Nat.lt_of_le_of_lt Nat.and_le_left hp) (by decide)]
    unfold sm_ck
    constructor
    · intro z
      rw [Nat.add_sub_cancel, z]
      rfl
    · intro z
      exact Nat.eq_of_beq_eq_true z
  refine ⟨fun z => ht (e.mp z), fun z => hf ?_⟩
  cases hc : sm_ck p
  · rfl
  · exact absurd (e.mpr hc) z
theorem xw_1 : ¬ (1 : Int32) = 0 := by decide
theorem xw_e2 (post : Int32 → Prop) {b c : Nat} (hb : b = 13 ∨ b = 22) (hc : c < 2 ^ 31) : ∀ k p w n, p + k = b → 1 ≤ p → k < n → w < 2 ^ b → post (nI (sm_e2 c k p w ||| sm_pa (sm_e2 c k p w) b)) → wX_encoded_50 post (nI b) (nI c) n (nI w) (nI p) := by
  intro k
  induction k with
  | zero =>
    intro p w n e h1 hn hw h
    obtain ⟨m, rfl⟩ : ∃ m, n = m + 1 := ⟨n - 1, by omega⟩
    obtain rfl : p = b := by omega
    refine br_t (nI_le (Nat.le_refl _) (by omega)) (xw_parity _ (sm_b31 hb hw) (by omega) ?_)
    show post (nI w ||| nI (sm_pa w p))
    rw [nx_or]
    exact h
  | succ k ih =>
    intro p w n e h1 hn hw h
    obtain ⟨m, rfl⟩ : ∃ m, n = m + 1 := ⟨n - 1, by omega⟩
    have q : sm_e2 c (k + 1) p w = bif sm_ck p && !Nat.beq (c &&& p) 0 then sm_e2 c k (p + 1) (w ||| 2 ^ p) else sm_e2 c k (p + 1) w := rfl
    refine br_f (nI_ge (by omega) (by omega)) (xw_chk _ h1 (by omega) (fun ck => br_f xw_1 ?_) (fun ck => br_t rfl (nm_r (nI_1 p) (ih (p + 1) w m (by omega) (by omega) (by omega) hw ?_))))
    · cases z : Nat.beq (c &&& p) 0
      · rw [ck, z] at q
        have q' : sm_e2 c (k + 1) p w = sm_e2 c k (p + 1) (w ||| 2 ^ p) := q
        rw [q'] at h
        have z' : ¬ nI c &&& nI p = 0 := by
          rw [nx_and, ← nI_0, nI_eq (Nat.lt_of_le_of_lt Nat.and_le_left hc) (by decide)]
          exact Nat.ne_of_beq_eq_false z
        refine br_f z' (nm_r (e' := nI (w ||| 2 ^ p)) ?_ (nm_r (nI_1 p) (ih (p + 1) _ m (by omega) (by omega) (by omega) (Nat.or_lt_two_pow hw (Nat.pow_lt_pow_right (by decide) (by omega))) h)))
        rw [show (1 : Int32) <<< (nI p &&& 31) = nI (1 * 2 ^ p) from sm_shl1 (by decide) (by omega), Nat.one_mul, nx_or]
      · rw [ck, z] at q
        have q' : sm_e2 c (k + 1) p w = sm_e2 c k (p + 1) w := q
        rw [q'] at h
        have z' : nI c &&& nI p = 0 := by
          rw [nx_and, Nat.eq_of_beq_eq_true z]
          rfl
        exact br_t z' (nm_r (nI_1 p) (ih (p + 1) w m (by omega) (by omega) (by omega) hw h))
    · rw [ck] at q
      have q' : sm_e2 c (k + 1) p w = sm_e2 c k (p + 1) w := q
      rw [q'] at h
      exact h
theorem xw_e1 (post : Int32 → Prop) {b : Nat} (hb : b = 13 ∨ b = 22) : ∀ k p w l n, p + k = b → 1 ≤ p → k < n → w < 2 ^ b → l < 2 ^ 31 → post (nI (sm_e2 (sm_sy (sm_e1 k p w l) b) (b - 1) 1 (sm_e1 k p w l) ||| sm_pa (sm_e2 (sm_sy (sm_e1 k p w l) b) (b - 1) 1 (sm_e1 k p w l)) b)) → wX_encoded_7 post (nI b) n (nI w) (nI l) (nI p) := by
  intro k
  induction k with
  | zero =>
    intro p w l n e h1 hn hw hl h
    obtain ⟨m, rfl⟩ : ∃ m, n = m + 1 := ⟨n - 1, by omega⟩
    obtain rfl : p = b := by omega
    have hs := sm_sy_32 w p (by omega)
    exact br_t (nI_le (Nat.le_refl _) (by omega)) (xw_syndrome _ (sm_b31 hb hw) h1 (by omega) ⟨p + 1, xw_e2 post hb (by omega) (p - 1) 1 w (p + 1) (by omega) (by omega) (by omega) hw h⟩)
  | succ k ih =>
    intro p w l n e h1 hn hw hl h
    obtain ⟨m, rfl⟩ : ∃ m, n = m + 1 := ⟨n - 1, by omega⟩
    have q : sm_e1 (k + 1) p w l = bif sm_ck p then sm_e1 k (p + 1) w l else sm_e1 k (p + 1) (w ||| l % 2 * 2 ^ p) (l / 2) := rfl
    refine br_f (nI_ge (by omega) (by omega)) (xw_chk _ h1 (by omega) (fun ck => br_f xw_1 (nm_r (nI_1 p) (ih (p + 1) w l m (by omega) (by omega) (by omega) hw hl ?_))) (fun ck => br_t rfl (nm_r (e' := nI (w ||| l % 2 * 2 ^ p)) ?_ (nm_r (e' := nI (l / 2)) ?_ (nm_r (nI_1 p) (ih (p + 1) _ _ m (by omega) (by omega) (by omega) (Nat.or_lt_two_pow hw (sm_lt1 (Nat.mod_lt _ (by decide)) (by omega))) (by omega) ?_))))))
    · rw [ck] at q
      have q' : sm_e1 (k + 1) p w l = sm_e1 k (p + 1) w l := q
      rw [q'] at h
      exact h
    · rw [show nI l &&& 1 = nI (l % 2) from pk_andN (by omega) 1 (by decide), sm_shl1 (Nat.mod_lt _ (by decide)) (by omega), nx_or]
    · exact pk_shrN hl _ 1 (by decide)
    · rw [ck] at q
      have q' : sm_e1 (k + 1) p w l = sm_e1 k (p + 1) (w ||| l % 2 * 2 ^ p) (l / 2) := q
      rw [q'] at h
      exact h
theorem xw_encoded (post : Int32 → Prop) {b v : Nat} (hb : b = 13 ∨ b = 22) (hv : v < 2 ^ 31) (h : post (nI (sm_en b v))) : wpX_encoded post (nI v) (nI b) :=
  ⟨b + 1, xw_e1 post hb (b - 1) 1 0 v (b + 1) (by omega) (by omega) (by omega) (Nat.two_pow_pos b) hv h⟩
theorem xw_corrected (post : Int32 → Prop) {b w : Nat} (hb : b = 13 ∨ b = 22) (hw : w < 2 ^ 31) (h : post (nI (sm_co b w))) : wpX_corrected post (nI w) (nI b) := by
  unfold wpX_corrected
  refine xw_parity _ hw (by omega) ?_
  have h2 := sm_pa_2 w b
  have h3 : sm_pa w b = 0 ∨ sm_pa w b = 1 := by omega
  rcases h3 with z | z
  · have e : sm_co b w = w := by
      unfold sm_co
      rw [z]
      rfl
    rw [e] at h
    exact br_t (by rw [z]; rfl) h
  · have e : sm_co b w = w ^^^ 2 ^ sm_sy w b := by
      unfold sm_co
      rw [z]
      rfl
    rw [e] at h
    refine br_f (by rw [z]; decide) (xw_syndrome _ hw (by omega) (by omega) ?_)
    show post (nI w ^^^ ((1 : Int32) <<< (nI (sm_sy w b) &&& 31)))
    rw [show (1 : Int32) <<< (nI (sm_sy w b) &&& 31) = nI (1 * 2 ^ sm_sy w b) from sm_shl1 (by decide) (sm_sy_32 w b (by omega)), Nat.one_mul, nx_xor]
    exact h
theorem xw_ex (post : Int32 → Prop) {b r : Nat} (hb : b = 13 ∨ b = 22) (hr : r < 2 ^ 31) : ∀ k p v t n, p + k = b → 1 ≤ p → t ≤ p → k < n → post (nI (sm_ex r k p v t)) → wX_decoded_14 post (nI b) (nI r) n (nI v) (nI t) (nI p) := by
  intro k
  induction k with
  | zero =>
    intro p v t n e h1 ht hn h
    obtain ⟨m, rfl⟩ : ∃ m, n = m + 1 := ⟨n - 1, by omega⟩
    obtain rfl : p = b := by omega
    exact br_t (nI_le (Nat.le_refl _) (by omega)) h
  | succ k ih =>
    intro p v t n e h1 ht hn h
    obtain ⟨m, rfl⟩ : ∃ m, n = m + 1 := ⟨n - 1, by omega⟩
    have q : sm_ex r (k + 1) p v t = bif sm_ck p then sm_ex r k (p + 1) v t else sm_ex r k (p + 1) (v ||| r / 2 ^ p % 2 * 2 ^ t) (t + 1) := rfl
    refine br_f (nI_ge (by omega) (by omega)) (xw_chk _ h1 (by omega) (fun ck => br_f xw_1 (nm_r (nI_1 p) (ih (p + 1) v t m (by omega) (by omega) (by omega) (by omega) ?_))) (fun ck => br_t rfl (nm_r (e' := nI (v ||| r / 2 ^ p % 2 * 2 ^ t)) ?_ (nm_r (nI_1 t) (nm_r (nI_1 p) (ih (p + 1) _ (t + 1) m (by omega) (by omega) (by omega) (by omega) ?_))))))
    · rw [ck] at q
      have q' : sm_ex r (k + 1) p v t = sm_ex r k (p + 1) v t := q
      rw [q'] at h
      exact h
    · rw [sm_bit hr (by omega), sm_shl1 (Nat.mod_lt _ (by decide)) (by omega), nx_or]
    · rw [ck] at q
      have q' : sm_ex r (k + 1) p v t = sm_ex r k (p + 1) (v ||| r / 2 ^ p % 2 * 2 ^ t) (t + 1) := q
      rw [q'] at h
      exact h
theorem xw_decoded (post : Int32 → Prop) {b w : Nat} (hb : b = 13 ∨ b = 22) (hw : w < 2 ^ 31) (hc : sm_co b w < 2 ^ 31) (h : post (nI (sm_de b w))) : wpX_decoded post (nI w) (nI b) :=
  xw_corrected _ hb hw ⟨b + 1, xw_ex post hb hc (b - 1) 1 0 0 (b + 1) (by omega) (by omega) (by omega) (by omega) h⟩
/-! of words that hold a value -/
theorem xw_parW (post : Int32 → Prop) {b v w s : Nat} (W : sm_Wd b v w s) (h : post (nI s)) : wpX_parity post (nI w) (nI b) := by
  have hb := sm_Gd_b W.1
  refine xw_parity post (sm_b31 hb (sm_Wd_lt W)) (by omega) ?_
  rw [sm_Wd_pa W]
  exact h
theorem xw_corW (post : Int32 → Prop) {b v w s : Nat} (W : sm_Wd b v w s) (h : post (nI (sm_en b v))) : wpX_corrected post (nI w) (nI b) := by
  have hb := sm_Gd_b W.1
  refine xw_corrected post hb (sm_b31 hb (sm_Wd_lt W)) ?_
  rw [sm_Wd_co W]
  exact h
theorem xw_decW (post : Int32 → Prop) {b v w s : Nat} (W : sm_Wd b v w s) (h : post (nI v)) : wpX_decoded post (nI w) (nI b) := by
  have hb := sm_Gd_b W.1
  refine xw_decoded post hb (sm_b31 hb (sm_Wd_lt W)) ?_ ?_
  · rw [sm_Wd_co W]
    exact sm_b31 hb (sm_en_lt v hb)
  · rw [sm_Wd_de W]
    exact h
end
section
/-! 04: what is tripled -/
section SLOTS
variable {oc hl tn : Int32} {cp hc cw sw ob : Nat → Int32}
def sm_w3 (cp : Nat → Int32) (s : Nat) (x : Int32) : Nat → Int32 := fun j => if j / 3 = s then x else cp j
def sm_hp (i : Nat) (val cp : Nat → Int32) : Nat → Int32 := fun j => if j / 3 < i then val (j / 3) else cp j
def sm_hc (i : Nat) (hc : Nat → Int32) : Nat → Int32 := fun s => if s < i then 0 else hc s
def sm_CP (cp hc val : Nat → Int32) : Prop := ∀ s, s < 6 → ∀ j, j < 3 → hc s ≠ nI (j + 1) → cp (s * 3 + j) = val s
theorem xv_voted (post : Int32 → Prop) {s : Nat} {h x : Int32} (hs : s < 6) (H : ∀ j, j < 3 → h ≠ nI (j + 1) → cp (s * 3 + j) = x) (hp : post x) : wpX_voted post (oc, hl, tn, cp, hc, cw, sw, ob) (nI s) := by
  have e0 : nI s * 3 = nI (s * 3) := pk_mul s 3
  have e1 : nI s * 3 + 1 = nI (s * 3 + 1) := by rw [e0, nI_1]
  have e2 : nI s * 3 + 2 = nI (s * 3 + 2) := by rw [e0]; exact nI_add _ 2
  have i0 : vp_in (nI s * 3) 18 := by rw [e0]; exact vp_in_nI (by omega) (by decide)
  have i1 : vp_in (nI s * 3 + 1) 18 := by rw [e1]; exact vp_in_nI (by omega) (by decide)
  have i2 : vp_in (nI s * 3 + 2) 18 := by rw [e2]; exact vp_in_nI (by omega) (by decide)
  have c0 : cp (nI s * 3).toNatClampNeg = cp (s * 3) := by rw [e0, nI_clamp (by omega)]
  have c1 : cp (nI s * 3 + 1).toNatClampNeg = cp (s * 3 + 1) := by rw [e1, nI_clamp (by omega)]
  have c2 : cp (nI s * 3 + 2).toNatClampNeg = cp (s * 3 + 2) := by rw [e2, nI_clamp (by omega)]
  refine ⟨i0, nm_r c0 ⟨i1, nm_r c1 ⟨i2, nm_r c2 ?_⟩⟩⟩
  rw [sm_vote H]
  exact hp
theorem xv_w3 (cp : Nat → Int32) (s : Nat) (x : Int32) : upd (upd (upd cp (s * 3) x) (s * 3 + 1) x) (s * 3 + 2) x = sm_w3 cp s x := by
  funext j
  unfold sm_w3 upd
  by_cases h : j / 3 = s
  · rw [if_pos h]
    have : j = s * 3 ∨ j = s * 3 + 1 ∨ j = s * 3 + 2 := by omega
    rcases this with z | z | z
    · rw [if_neg (by omega), if_neg (by omega), if_pos z]
    · rw [if_neg (by omega), if_pos z]
    · rw [if_pos z]
  · rw [if_neg h, if_neg (by omega), if_neg (by omega), if_neg (by omega)]
theorem xv_write (post : SX → Prop) {s : Nat} (hs : s < 6) (x : Int32) (h : post (oc, hl, tn, sm_w3 cp s x, upd hc s 0, cw, sw, ob)) : wpX_write post (oc, hl, tn, cp, hc, cw, sw, ob) (nI s) x := by
  have e0 : nI s * 3 + 0 = nI (s * 3) := by rw [Int32.add_zero]; exact pk_mul s 3
  have e1 : nI s * 3 + 1 = nI (s * 3 + 1) := by rw [show nI s * 3 = nI (s * 3) from pk_mul s 3, nI_1]
  have e2 : nI s * 3 + 2 = nI (s * 3 + 2) := by rw [show nI s * 3 = nI (s * 3) from pk_mul s 3]; exact nI_add _ 2
  have i0 : vp_in (nI s * 3 + 0) 18 := by rw [e0]; exact vp_in_nI (by omega) (by decide)
  have i1 : vp_in (nI s * 3 + 1) 18 := by rw [e1]; exact vp_in_nI (by omega) (by decide)
  have i2 : vp_in (nI s * 3 + 2) 18 := by rw [e2]; exact vp_in_nI (by omega) (by decide)
  have c0 (f : Nat → Int32) : upd f (nI s * 3 + 0).toNatClampNeg x = upd f (s * 3) x := by rw [e0, nI_clamp (by omega)]
  have c1 (f : Nat → Int32) : upd f (nI s * 3 + 1).toNatClampNeg x = upd f (s * 3 + 1) x := by rw [e1, nI_clamp (by omega)]
  have c2 (f : Nat → Int32) : upd f (nI s * 3 + 2).toNatClampNeg x = upd f (s * 3 + 2) x := by rw [e2, nI_clamp (by omega)]
  have ch : upd hc (nI s).toNatClampNeg 0 = upd hc s 0 := by rw [nI_clamp (by omega)]
  refine ⟨4, br_f (by decide) ⟨i0, nm_r (c0 _) (nm_r (e' := 1) rfl (br_f (by decide) ⟨i1, nm_r (c1 _) (nm_r (e' := 2) rfl (br_f (by decide) ⟨i2, nm_r ((c2 _).trans (xv_w3 cp s x)) (nm_r (e' := 3) rfl (br_t (by decide) ⟨vp_in_nI hs (by decide), nm_r ch h⟩))⟩))⟩))⟩⟩
theorem xv_hp (i : Nat) (val cp : Nat → Int32) : sm_w3 (sm_hp i val cp) i (val i) = sm_hp (i + 1) val cp := by
  funext j
  unfold sm_w3 sm_hp
  by_cases h : j / 3 = i
  · rw [if_pos h, if_pos (by omega), h]
  · rw [if_neg h]
    by_cases h2 : j / 3 < i
    · rw [if_pos h2, if_pos (by omega)]
    · rw [if_neg h2, if_neg (by omega)]
theorem xv_hc (i : Nat) (hc : Nat → Int32) : upd (sm_hc i hc) i 0 = sm_hc (i + 1) hc := by
  funext j
  unfold upd sm_hc
  by_cases h : j = i
  · rw [if_pos h, if_pos (by omega)]
  · rw [if_neg h]
    by_cases h2 : j < i
    · rw [if_pos h2, if_pos (by omega)]
    · rw [if_neg h2, if_neg (by omega)]
theorem xv_hp0 (val cp : Nat → Int32) : sm_hp 0 val cp = cp := by
  funext j
  exact if_neg (by omega)
theorem xv_hc0 (hc : Nat → Int32) : sm_hc 0 hc = hc := by
  funext j
  exact if_neg (by omega)
theorem xv_hpv {val cp hc : Nat → Int32} (C : sm_CP cp hc val) {i : Nat} (hi : i < 6) : ∀ j, j < 3 → hc i ≠ nI (j + 1) → sm_hp i val cp (i * 3 + j) = val i := by
  intro j hj h
  unfold sm_hp
  rw [if_neg (by omega)]
  exact C i hi j hj h
theorem xv_healL (post : SX → Prop) {val : Nat → Int32} (C : sm_CP cp hc val) (h : post (oc, hl, tn, sm_hp 5 val cp, sm_hc 5 hc, cw, sw, ob)) : ∀ k i n, i + k = 5 → k < n → wX_healSlots_2 post n (nI i) oc hl tn (sm_hp i val cp) (sm_hc i hc) cw sw ob := by
  intro k
  induction k with
  | zero =>
    intro i n e hn
    obtain ⟨m, rfl⟩ : ∃ m, n = m + 1 := ⟨n - 1, by omega⟩
    obtain rfl : i = 5 := by omega
    exact br_t (by decide) h
  | succ k ih =>
    intro i n e hn
    obtain ⟨m, rfl⟩ : ∃ m, n = m + 1 := ⟨n - 1, by omega⟩
    refine br_f (nI_ge (b := 5) (by omega) (by decide)) (xv_voted _ (by omega) (xv_hpv C (by omega)) (xv_write _ (by omega) _ ?_))
    rw [xv_hp, xv_hc]
    exact nm_r (nI_1 i) (ih (i + 1) m (by omega) (by omega))
theorem xv_heal (post : SX → Prop) {val : Nat → Int32} (C : sm_CP cp hc val) (h : post (oc, hl, tn, sm_hp 5 val cp, sm_hc 5 hc, cw, sw, ob)) : wpX_healSlots post (oc, hl, tn, cp, hc, cw, sw, ob) := by
  have i := xv_healL post C h 5 0 6 (by omega) (by omega)
  rw [xv_hp0, xv_hc0] at i
  exact ⟨6, i⟩
/-- a slot written -/
theorem sm_CP_w {val val' : Nat → Int32} (C : sm_CP cp hc val) {s : Nat} {x : Int32} (hx : val' s = x) (hv : ∀ t, t ≠ s → val' t = val t) : sm_CP (sm_w3 cp s x) (upd hc s 0) val' := by
  intro t ht j hj h
  unfold sm_w3
  by_cases z : t = s
  · rw [if_pos (by omega), z, hx]
  · rw [if_neg (by omega), hv t z]
    rw [pk_un z] at h
    exact C t ht j hj h
/-- all healed -/
theorem sm_CP_h {val : Nat → Int32} (cp hc : Nat → Int32) : sm_CP (sm_hp 6 val cp) (sm_hc 6 hc) val := by
  intro t ht j hj h
  unfold sm_hp
  have e : (t * 3 + j) / 3 = t := by omega
  rw [if_pos (by omega), e]
/-- the slots' values: registers, place, work -/
def sm_val (rg : Nat → Int32) (at' : Int32) : Nat → Int32 := fun s => if s < 4 then rg s else if s = 4 then at' else 0
theorem sm_val_r {rg : Nat → Int32} {a : Int32} {r : Nat} (h : r < 4) : sm_val rg a r = rg r := if_pos h
theorem sm_val_4 {rg : Nat → Int32} {a : Int32} : sm_val rg a 4 = a := rfl
theorem sm_val_5 {rg : Nat → Int32} {a : Int32} : sm_val rg a 5 = 0 := rfl
end SLOTS
end
section
/-! 05: a step of the class -/
section XSTEP
variable {oc hl tn : Int32} {cp hc cw sw ob : Nat → Int32}
theorem xr_step (post : SX → Prop) {q wn vn sn : Nat} (hq : q < 32) (e : sw q = nI wn) (W : sm_Wd 22 vn wn sn) (h : post (oc, hl, tn, cp, hc, cw, upd sw q (nI (sm_en 22 vn)), ob)) : wpX_repair__stepWords post (oc, hl, tn, cp, hc, cw, sw, ob) (nI q) 22 := by
  have ec : sw (nI q).toNatClampNeg = nI wn := by rw [nI_clamp (by omega), e]
  refine ⟨vp_in_nI hq (by decide), ?_⟩
  rw [ec]
  exact xw_corW (b := 22) _ W ⟨vp_in_nI hq (by decide), nm_r (by rw [nI_clamp (by omega)]) h⟩
theorem xr_cell (post : SX → Prop) {q wn vn sn : Nat} (hq : q < 16) (e : cw q = nI wn) (W : sm_Wd 13 vn wn sn) (h : post (oc, hl, tn, cp, hc, upd cw q (nI (sm_en 13 vn)), sw, ob)) : wpX_repair__cellWords post (oc, hl, tn, cp, hc, cw, sw, ob) (nI q) 13 := by
  have ec : cw (nI q).toNatClampNeg = nI wn := by rw [nI_clamp (by omega), e]
  refine ⟨vp_in_nI hq (by decide), ?_⟩
  rw [ec]
  exact xw_corW (b := 13) _ W ⟨vp_in_nI hq (by decide), nm_r (by rw [nI_clamp (by omega)]) h⟩
theorem xv_hp5 {val cp : Nat → Int32} {s : Nat} {x : Int32} (hs : s < 5) (hx : val s = x) : ∀ j, j < 3 → (0 : Int32) ≠ nI (j + 1) → sm_hp 5 val cp (s * 3 + j) = x := by
  intro j hj _
  unfold sm_hp
  have e : (s * 3 + j) / 3 = s := by omega
  rw [e, if_pos hs, hx]
theorem xd_none (post : SX → Prop) {rg : Nat → Int32} {p on t nn wn sn : Nat} (hp : p < 32) (C : sm_CP cp hc (sm_val rg (nI p))) (ho : on < 14) (ht : t < 4) (hn : nn < 256) (ew : sw p = nI wn) (W : sm_Wd 22 (on * 1024 + t * 256 + nn) wn sn)
    (hcell : ∀ post' : Int32 → Prop, post' (-1) → wpX_cellOfStep post' (nI on) (nI nn) (rg (nn % 4)))
    (h : ∃ n, wX_doStep_123 post (nI p) (nI on) (nI t) (nI nn) (rg t) (rg (nn % 4)) (-1) 0 oc hl tn n 0 (sm_hp 5 (sm_val rg (nI p)) cp) (sm_hc 5 hc) cw (upd sw p (nI (sm_en 22 (on * 1024 + t * 256 + nn)))) ob) : wpX_doStep post (oc, hl, tn, cp, hc, cw, sw, ob) := by
  have ep : nI p &&& 31 = nI p := by
    rw [pk_andN (by omega) 5 (by decide), Nat.mod_eq_of_lt (by omega)]
  have e3 : nI nn &&& 3 = nI (nn % 4) := pk_andN (by omega) 2 (by decide)
  have x3 : nI (on * 1024 + t * 256 + nn) >>> ((10 : Int32) &&& 31) &&& 15 = nI on := by
    rw [pk_shrN (by omega) _ 10 (by decide), pk_andN (by omega) 4 (by decide)]
    exact congrArg nI (by omega)
  have x4 : nI (on * 1024 + t * 256 + nn) >>> ((8 : Int32) &&& 31) &&& 3 = nI t := by
    rw [pk_shrN (by omega) _ 8 (by decide), pk_andN (by omega) 2 (by decide)]
    exact congrArg nI (by omega)
  have x5 : nI (on * 1024 + t * 256 + nn) &&& 255 = nI nn := by
    rw [pk_andN (by omega) 8 (by decide)]
    exact congrArg nI (by omega)
  have eu : upd sw p (nI (sm_en 22 (on * 1024 + t * 256 + nn))) (nI p).toNatClampNeg = nI (sm_en 22 (on * 1024 + t * 256 + nn)) := by rw [nI_clamp (by omega), pk_us]
  unfold wpX_doStep
  refine xv_heal _ C ?_
  refine xv_voted (s := 4) _ (by decide) (xv_hp5 (by decide) sm_val_4) ?_
  refine nm_r ep ?_
  refine xr_step _ hp ew W ?_
  refine ⟨vp_in_nI hp (by decide), ?_⟩
  rw [eu]
  refine xw_decW (b := 22) _ (sm_Wd_0 W.1) ?_
  refine nm_r x3 (nm_r x4 (nm_r x5 ?_))
  rw [e3]
  refine xv_voted _ (by omega) (xv_hp5 (by omega) (sm_val_r ht)) ?_
  refine xv_voted _ (by omega) (xv_hp5 (by omega) (sm_val_r (by omega))) ?_
  exact hcell _ (br_t rfl h)
theorem xd_cell (post : SX → Prop) {rg : Nat → Int32} {p on t nn wn sn c cv cwn csn : Nat} (hp : p < 32) (C : sm_CP cp hc (sm_val rg (nI p))) (ho : on < 14) (ht : t < 4) (hn : nn < 256) (ew : sw p = nI wn) (W : sm_Wd 22 (on * 1024 + t * 256 + nn) wn sn)
    (hc16 : c < 16) (ec : cw c = nI cwn) (Wc : sm_Wd 13 cv cwn csn)
    (hcell : ∀ post' : Int32 → Prop, post' (nI c) → wpX_cellOfStep post' (nI on) (nI nn) (rg (nn % 4)))
    (h : ∃ n, wX_doStep_123 post (nI p) (nI on) (nI t) (nI nn) (rg t) (rg (nn % 4)) (nI c) (nI cv) oc hl tn n 0 (sm_hp 5 (sm_val rg (nI p)) cp) (sm_hc 5 hc) (upd cw c (nI (sm_en 13 cv))) (upd sw p (nI (sm_en 22 (on * 1024 + t * 256 + nn)))) ob) : wpX_doStep post (oc, hl, tn, cp, hc, cw, sw, ob) := by
  have ep : nI p &&& 31 = nI p := by
    rw [pk_andN (by omega) 5 (by decide), Nat.mod_eq_of_lt (by omega)]
  have e3 : nI nn &&& 3 = nI (nn % 4) := pk_andN (by omega) 2 (by decide)
  have x3 : nI (on * 1024 + t * 256 + nn) >>> ((10 : Int32) &&& 31) &&& 15 = nI on := by
    rw [pk_shrN (by omega) _ 10 (by decide), pk_andN (by omega) 4 (by decide)]
    exact congrArg nI (by omega)
  have x4 : nI (on * 1024 + t * 256 + nn) >>> ((8 : Int32) &&& 31) &&& 3 = nI t := by
    rw [pk_shrN (by omega) _ 8 (by decide), pk_andN (by omega) 2 (by decide)]
    exact congrArg nI (by omega)
  have x5 : nI (on * 1024 + t * 256 + nn) &&& 255 = nI nn := by
    rw [pk_andN (by omega) 8 (by decide)]
    exact congrArg nI (by omega)
  have eu : upd sw p (nI (sm_en 22 (on * 1024 + t * 256 + nn))) (nI p).toNatClampNeg = nI (sm_en 22 (on * 1024 + t * 256 + nn)) := by rw [nI_clamp (by omega), pk_us]
  have eu2 : upd cw c (nI (sm_en 13 cv)) (nI c).toNatClampNeg = nI (sm_en 13 cv) := by rw [nI_clamp (by omega), pk_us]
  have hne : ¬ nI c = -1 := by
    intro z
    have := nI_pos (n := c) (by omega)
    rw [z] at this
    exact this (by decide)
  unfold wpX_doStep
  refine xv_heal _ C ?_
  refine xv_voted (s := 4) _ (by decide) (xv_hp5 (by decide) sm_val_4) ?_
  refine nm_r ep ?_
  refine xr_step _ hp ew W ?_
  refine ⟨vp_in_nI hp (by decide), ?_⟩
  rw [eu]
  refine xw_decW (b := 22) _ (sm_Wd_0 W.1) ?_
  refine nm_r x3 (nm_r x4 (nm_r x5 ?_))
  rw [e3]
  refine xv_voted _ (by omega) (xv_hp5 (by omega) (sm_val_r ht)) ?_
  refine xv_voted _ (by omega) (xv_hp5 (by omega) (sm_val_r (by omega))) ?_
  refine hcell _ (br_f hne ?_)
  refine xr_cell _ hc16 ec Wc ?_
  refine ⟨vp_in_nI hc16 (by decide), ?_⟩
  rw [eu2]
  exact xw_decW (b := 13) _ (sm_Wd_0 Wc.1) h
/-! the work, three times -/
theorem xd_15 : ((15 : Int32) + 0).toNatClampNeg = 15 := by decide
theorem xd_16 : ((15 : Int32) + 1).toNatClampNeg = 16 := by decide
theorem xd_17 : ((15 : Int32) + 2).toNatClampNeg = 17 := by decide
theorem xd_i15 : vp_in ((15 : Int32) + 0) 18 := vp_in_iff.mpr (by decide)
theorem xd_i16 : vp_in ((15 : Int32) + 1) 18 := vp_in_iff.mpr (by decide)
theorem xd_i17 : vp_in ((15 : Int32) + 2) 18 := vp_in_iff.mpr (by decide)
def xd_c3 (cp : Nat → Int32) (x : Int32) : Nat → Int32 := upd (upd (upd cp 15 (cp 15 ^^^ x)) 16 (cp 16 ^^^ x)) 17 (cp 17 ^^^ x)
theorem xd_c3w (cp : Nat → Int32) (x : Int32) : sm_w3 (xd_c3 cp x) 5 0 = sm_w3 cp 5 0 := by
  funext j
  unfold sm_w3 xd_c3
  by_cases h : j / 3 = 5
  · rw [if_pos h, if_pos h]
  · rw [if_neg h, if_neg h, pk_un (by omega), pk_un (by omega), pk_un (by omega)]
theorem xd_c3v {cp : Nat → Int32} {x h : Int32} (H : ∀ j, j < 3 → h ≠ nI (j + 1) → cp (5 * 3 + j) = 0) : ∀ j, j < 3 → h ≠ nI (j + 1) → xd_c3 cp x (5 * 3 + j) = x := by
  intro j hj z
  have e := H j hj z
  unfold xd_c3
  have : j = 0 ∨ j = 1 ∨ j = 2 := by omega
  rcases this with rfl | rfl | rfl
  · have e' : cp 15 = 0 := e
    show upd (upd (upd cp 15 (cp 15 ^^^ x)) 16 (cp 16 ^^^ x)) 17 (cp 17 ^^^ x) 15 = x
    rw [pk_un (by decide), pk_un (by decide), pk_us, e', Int32.zero_xor]
  · have e' : cp 16 = 0 := e
    show upd (upd (upd cp 15 (cp 15 ^^^ x)) 16 (cp 16 ^^^ x)) 17 (cp 17 ^^^ x) 16 = x
    rw [pk_un (by decide), pk_us, e', Int32.zero_xor]
  · have e' : cp 17 = 0 := e
    show upd (upd (upd cp 15 (cp 15 ^^^ x)) 16 (cp 16 ^^^ x)) 17 (cp 17 ^^^ x) 17 = x
    rw [pk_us, e', Int32.zero_xor]
theorem xd_work (post : SX → Prop) {x1 x3 x4 x5 x6 x7 x8 x9 wv h : Int32} {oc' hl' tn' oc2 hl2 tn2 : Int32} {cp' hc' cw' sw' ob' cp2 hc2 cw2 sw2 ob2 : Nat → Int32}
    (hW : ∀ post' : Int32 → Prop, post' wv → wpX_workedOut post' x3 x6 x5 x7 x9 x1) (H : ∀ j, j < 3 → h ≠ nI (j + 1) → cp (5 * 3 + j) = 0)
    (hf : ∀ post' : SX → Prop, post' (oc', hl', tn', cp', hc', cw', sw', ob') → wpX_finishStep post' (oc, hl, tn, sm_w3 cp 5 0, upd hc 5 0, cw, sw, ob) x3 x4 x8 x1 wv)
    (ht : ∀ post' : SX → Prop, post' (oc2, hl2, tn2, cp2, hc2, cw2, sw2, ob2) → wpX_repairInTurn post' (oc', hl', tn', cp', hc', cw', sw', ob'))
    (hp : post (oc2, hl2, tn2, cp2, hc2, cw2, sw2, ob2)) : ∃ n, wX_doStep_123 post x1 x3 x4 x5 x6 x7 x8 x9 oc hl tn n 0 cp hc cw sw ob := by
  have a0 : upd cp ((15 : Int32) + 0).toNatClampNeg (cp ((15 : Int32) + 0).toNatClampNeg ^^^ wv) = upd cp 15 (cp 15 ^^^ wv) := by rw [xd_15]
  have a1 : upd (upd cp 15 (cp 15 ^^^ wv)) ((15 : Int32) + 1).toNatClampNeg (upd cp 15 (cp 15 ^^^ wv) ((15 : Int32) + 1).toNatClampNeg ^^^ wv) = upd (upd cp 15 (cp 15 ^^^ wv)) 16 (cp 16 ^^^ wv) := by rw [xd_16, pk_un (by decide)]
  have a2 : upd (upd (upd cp 15 (cp 15 ^^^ wv)) 16 (cp 16 ^^^ wv)) ((15 : Int32) + 2).toNatClampNeg (upd (upd cp 15 (cp 15 ^^^ wv)) 16 (cp 16 ^^^ wv) ((15 : Int32) + 2).toNatClampNeg ^^^ wv) = xd_c3 cp wv := by
    rw [xd_17, pk_un (f := upd cp 15 (cp 15 ^^^ wv)) (by decide), pk_un (f := cp) (by decide)]
    rfl
  refine ⟨4, br_f (by decide) ⟨xd_i15, hW _ ⟨xd_i15, nm_r a0 (nm_r (e' := 1) rfl (br_f (by decide) ⟨xd_i16, hW _ ⟨xd_i16, nm_r a1 (nm_r (e' := 2) rfl (br_f (by decide) ⟨xd_i17, hW _ ⟨xd_i17, nm_r a2 (nm_r (e' := 3) rfl (br_t (by decide) ?_))⟩⟩))⟩⟩))⟩⟩⟩
  refine xv_voted (s := 5) _ (by decide) (xd_c3v H) ?_
  refine xv_write (s := 5) _ (by decide) _ ?_
  rw [xd_c3w]
  exact hf _ (ht _ hp)
/-! the step's end -/
theorem xf_172 (post : SX → Prop) (x6 : Int32) (h : post (oc, hl, tn, sm_w3 cp 4 x6, upd hc 4 0, cw, sw, ob)) : wX_finishStep_172 post x6 oc hl tn cp hc cw sw ob := by
  unfold wX_finishStep_172
  exact xv_write (s := 4) _ (by decide) _ h
theorem xf_165 (post : SX → Prop) {r : Nat} (hr : r < 4) (x5 x6 : Int32) (h : post (oc, hl, tn, sm_w3 (sm_w3 cp r x5) 4 x6, upd (upd hc r 0) 4 0, cw, sw, ob)) : wX_finishStep_165 post (nI r) x5 x6 oc hl tn cp hc cw sw ob := by
  unfold wX_finishStep_165
  refine xv_write _ (by omega) _ ?_
  exact xf_172 post x6 h
theorem xf_137 (post : SX → Prop) {c v : Nat} (hc16 : c < 16) (hv : v < 2 ^ 31) (x6 : Int32) (h : post (oc, hl, tn, sm_w3 cp 4 x6, upd hc 4 0, upd cw c (nI (sm_en 13 v)), sw, ob)) : wX_finishStep_137 post (nI c) (nI v) x6 oc hl tn cp hc cw sw ob := by
  have hne : ¬ nI c = -1 := by
    intro z
    have := nI_pos (n := c) (by omega)
    rw [z] at this
    exact this (by decide)
  refine br_f hne (xw_encoded (b := 13) _ (Or.inl rfl) hv ⟨vp_in_nI hc16 (by decide), nm_r (by rw [nI_clamp (by omega)]) ?_⟩)
  exact xf_172 post x6 h
theorem xf_nx {p : Nat} (hp : p < 32) : (nI p + 1) &&& 31 = nI ((p + 1) % 32) := by
  rw [nI_1]
  exact pk_andN (by omega) 5 (by decide)
theorem xf_stop (post : SX → Prop) {p : Nat} (hp : p < 32) {r c x : Int32} (h : post (oc, 1, tn, sm_w3 cp 4 (nI p), upd hc 4 0, cw, sw, ob)) : wpX_finishStep post (oc, hl, tn, cp, hc, cw, sw, ob) (nI 0) r c (nI p) x := by
  refine nm_r (xf_nx hp) ?_
  repeat (first | refine br_t (by decide) ?_ | refine br_f (by decide) ?_)
  exact xf_172 post _ h
theorem xf_reg (post : SX → Prop) {p k r : Nat} (hp : p < 32) (hr : r < 4) (hk : k = 1 ∨ k = 2 ∨ k = 4 ∨ k = 5 ∨ k = 6 ∨ k = 7 ∨ k = 8 ∨ k = 12) {c x : Int32} (h : post (oc, hl, tn, sm_w3 (sm_w3 cp r x) 4 (nI ((p + 1) % 32)), upd (upd hc r 0) 4 0, cw, sw, ob)) : wpX_finishStep post (oc, hl, tn, cp, hc, cw, sw, ob) (nI k) (nI r) c (nI p) x := by
  refine nm_r (xf_nx hp) ?_
  rcases hk with rfl | rfl | rfl | rfl | rfl | rfl | rfl | rfl
  all_goals
    repeat (first | refine br_t (by decide) ?_ | refine br_f (by decide) ?_)
    exact xf_165 post hr _ _ h
theorem xf_jump (post : SX → Prop) {p k : Nat} (hp : p < 32) (hk : k = 9 ∨ k = 10) {r c x : Int32} (h : post (oc, hl, tn, sm_w3 cp 4 x, upd hc 4 0, cw, sw, ob)) : wpX_finishStep post (oc, hl, tn, cp, hc, cw, sw, ob) (nI k) r c (nI p) x := by
  refine nm_r (xf_nx hp) ?_
  rcases hk with rfl | rfl
  all_goals
    repeat (first | refine br_t (by decide) ?_ | refine br_f (by decide) ?_)
    unfold wX_finishStep_158
    exact xf_172 post _ h
theorem xf_store (post : SX → Prop) {p k c v : Nat} (hp : p < 32) (hk : k = 3 ∨ k = 13) (hc16 : c < 16) (hv : v < 2 ^ 31) {r : Int32} (h : post (oc, hl, tn, sm_w3 cp 4 (nI ((p + 1) % 32)), upd hc 4 0, upd cw c (nI (sm_en 13 v)), sw, ob)) : wpX_finishStep post (oc, hl, tn, cp, hc, cw, sw, ob) (nI k) r (nI c) (nI p) (nI v) := by
  refine nm_r (xf_nx hp) ?_
  rcases hk with rfl | rfl
  all_goals
    repeat (first | refine br_t (by decide) ?_ | refine br_f (by decide) ?_)
    exact xf_137 post hc16 hv _ h
theorem xf_out (post : SX → Prop) {p o : Nat} (hp : p < 32) (ho : o < 16) {r c x : Int32} (h : post (nI (o + 1), hl, tn, sm_w3 cp 4 (nI ((p + 1) % 32)), upd hc 4 0, cw, sw, upd ob o x)) : wpX_finishStep post (nI o, hl, tn, cp, hc, cw, sw, ob) (nI 11) r c (nI p) x := by
  refine nm_r (xf_nx hp) ?_
  repeat (first | refine br_t (by decide) ?_ | refine br_f (by decide) ?_)
  refine br_f (nI_ge (b := 16) ho (by decide)) ⟨vp_in_nI ho (by decide), nm_r (by rw [nI_clamp (by omega)]) (nm_r (nI_1 o) ?_)⟩
  exact xf_172 post _ h
theorem xf_full (post : SX → Prop) {p : Nat} (hp : p < 32) {r c x : Int32} (h : post (nI 16, 1, tn, sm_w3 cp 4 (nI p), upd hc 4 0, cw, sw, ob)) : wpX_finishStep post (nI 16, hl, tn, cp, hc, cw, sw, ob) (nI 11) r c (nI p) x := by
  refine nm_r (xf_nx hp) ?_
  repeat (first | refine br_t (by decide) ?_ | refine br_f (by decide) ?_)
  exact xf_172 post _ h
end XSTEP
end
section
/-! 06: all words beside the reference's state; the repair in turn; the reference's step -/
section WORDS
variable {oc hl tn : Int32} {cp hc cw sw ob : Nat → Int32} {ce op tg nu sp : Nat → Int32}
def sm_By (x : Int32) : Prop := ∃ n, n < 256 ∧ x = nI n
def sm_St (w o t n s : Int32) : Prop := ∃ on tn nn wn sn : Nat, on < 14 ∧ tn < 4 ∧ nn < 256 ∧ o = nI on ∧ t = nI tn ∧ n = nI nn ∧ w = nI wn ∧ s = nI sn ∧ sm_Wd 22 (on * 1024 + tn * 256 + nn) wn sn
def sm_Ws (cw sw ce op tg nu sp : Nat → Int32) : Prop := (∀ c, c < 16 → sm_W 13 (cw c) (ce c) (sp (32 + c))) ∧ (∀ q, q < 32 → sm_St (sw q) (op q) (tg q) (nu q) (sp q))
theorem sm_uu (f : Nat → Int32) (k : Nat) (x y : Int32) : upd (upd f k x) k y = upd f k y := by
  funext j
  unfold upd
  by_cases h : j = k
  · rw [if_pos h, if_pos h]
  · rw [if_neg h, if_neg h, if_neg h]
theorem sm_ue {f : Nat → Int32} {k : Nat} {x : Int32} (h : f k = x) : upd f k x = f := by
  funext j
  unfold upd
  by_cases z : j = k
  · rw [if_pos z, z, h]
  · rw [if_neg z]
theorem sm_G22 {on t nn : Nat} (h1 : on < 14) (h2 : t < 4) (h3 : nn < 256) : sm_Gd 22 (on * 1024 + t * 256 + nn) := Or.inr ⟨rfl, by omega⟩
theorem ws_set (H : sm_Ws cw sw ce op tg nu sp) {q on t nn : Nat} (hq : q < 32) (h1 : on < 14) (h2 : t < 4) (h3 : nn < 256) : sm_Ws cw (upd sw q (nI (sm_en 22 (on * 1024 + t * 256 + nn)))) ce (upd op q (nI on)) (upd tg q (nI t)) (upd nu q (nI nn)) (upd sp q 0) := by
  refine ⟨fun c hc => ?_, fun i hi => ?_⟩
  · rw [pk_un (by omega)]
    exact H.1 c hc
  · by_cases z : i = q
    · subst z
      rw [pk_us, pk_us, pk_us, pk_us, pk_us]
      exact ⟨on, t, nn, _, 0, h1, h2, h3, rfl, rfl, rfl, rfl, rfl, sm_Wd_0 (sm_G22 h1 h2 h3)⟩
    · rw [pk_un z, pk_un z, pk_un z, pk_un z, pk_un z]
      exact H.2 i hi
theorem ws_step (H : sm_Ws cw sw ce op tg nu sp) {q on t nn : Nat} (hq : q < 32) (h1 : on < 14) (h2 : t < 4) (h3 : nn < 256) (e1 : op q = nI on) (e2 : tg q = nI t) (e3 : nu q = nI nn) : sm_Ws cw (upd sw q (nI (sm_en 22 (on * 1024 + t * 256 + nn)))) ce op tg nu (upd sp q 0) := by
  have := ws_set H hq h1 h2 h3
  rwa [sm_ue e1, sm_ue e2, sm_ue e3] at this
theorem ws_store (H : sm_Ws cw sw ce op tg nu sp) {c v : Nat} (hc : c < 16) (hv : v < 256) : sm_Ws (upd cw c (nI (sm_en 13 v))) sw (upd ce c (nI v)) op tg nu (upd sp (32 + c) 0) := by
  refine ⟨fun i hi => ?_, fun i hi => ?_⟩
  · by_cases z : i = c
    · subst z
      rw [pk_us, pk_us, pk_us]
      exact ⟨_, v, 0, rfl, rfl, rfl, sm_Wd_0 (Or.inl ⟨rfl, hv⟩)⟩
    · rw [pk_un z, pk_un z, pk_un (by omega)]
      exact H.1 i hi
  · rw [pk_un (by omega)]
    exact H.2 i hi
theorem ws_cell (H : sm_Ws cw sw ce op tg nu sp) {c v : Nat} (hc : c < 16) (hv : v < 256) (e : ce c = nI v) : sm_Ws (upd cw c (nI (sm_en 13 v))) sw ce op tg nu (upd sp (32 + c) 0) := by
  have := ws_store H hc hv
  rwa [sm_ue e] at this
theorem sm_Wv {v w s : Nat} (h : sm_Wd 13 v w s) : v < 256 := by
  rcases h.1 with h | h
  · exact h.2
  · exact absurd h.1 (by decide)
theorem xr_41 (post : SX → Prop) {d : Nat} (h : post (oc, hl, nI ((d + 1) % 48), cp, hc, cw, sw, ob)) : wX_repairInTurn_41 post oc hl (nI (d % 48)) cp hc cw sw ob := by
  refine ⟨by decide, nm_r (e' := nI ((d + 1) % 48)) ?_ h⟩
  rw [nI_1]
  have e := pk_rem (a := d % 48 + 1) (d := 48) (by omega) (by decide) (by decide)
  exact e.trans (congrArg nI (by omega))
theorem ws_turn (H : sm_Ws cw sw ce op tg nu sp) (d : Nat) : ∃ cw' sw', sm_Ws cw' sw' ce op tg nu (upd sp (d % 48) 0) ∧ ∀ (post : SX → Prop) (oc hl : Int32) (cp hc ob : Nat → Int32), post (oc, hl, nI ((d + 1) % 48), cp, hc, cw', sw', ob) → wpX_repairInTurn post (oc, hl, nI (d % 48), cp, hc, cw, sw, ob) := by
  by_cases z : d % 48 < 32
  · obtain ⟨on, t, nn, wn, sn, h1, h2, h3, e1, e2, e3, e4, e5, W⟩ := H.2 (d % 48) z
    refine ⟨cw, _, ws_step H z h1 h2 h3 e1 e2 e3, fun post oc hl cp hc ob h => ?_⟩
    refine br_f (nI_ge (b := 32) z (by decide)) ?_
    refine xr_step _ z e4 W ?_
    exact xr_41 post h
  · obtain ⟨wn, vn, sn, e1, e2, e3, W⟩ := H.1 (d % 48 - 32) (by omega)
    have w := ws_cell H (c := d % 48 - 32) (by omega) (sm_Wv W) e2
    rw [show 32 + (d % 48 - 32) = d % 48 by omega] at w
    refine ⟨_, sw, w, fun post oc hl cp hc ob h => ?_⟩
    have es : nI (d % 48) - 32 = nI (d % 48 - 32) := pk_sub (b := 32) (by omega)
    refine br_t (nI_le (a := 32) (by omega) (by omega)) ?_
    rw [es]
    refine xr_cell _ (by omega) e1 W ?_
    exact xr_41 post h
end WORDS
section YSTEP
variable {a sh hl dn : Int32} {rg ce op tg nu pp sp ht : Nat → Int32}
theorem yf_L (post : SY → Prop) (h : post (a, sh, hl, dn, rg, ce, op, tg, nu, pp, sp, sm_hc 6 ht)) : ∀ k i n, i + k = 6 → k < n → wY_forgetHits_2 post a sh hl dn n (nI i) rg ce op tg nu pp sp (sm_hc i ht) := by
  intro k
  induction k with
  | zero =>
    intro i n e hn
    obtain ⟨m, rfl⟩ : ∃ m, n = m + 1 := ⟨n - 1, by omega⟩
    obtain rfl : i = 6 := by omega
    exact br_t (by decide) h
  | succ k ih =>
    intro i n e hn
    obtain ⟨m, rfl⟩ : ∃ m, n = m + 1 := ⟨n - 1, by omega⟩
    refine br_f (nI_ge (b := 6) (by omega) (by decide)) ⟨vp_in_nI (by omega) (by decide), nm_r ?_ (nm_r (nI_1 i) (ih (i + 1) m (by omega) (by omega)))⟩
    rw [nI_clamp (by omega), xv_hc]
theorem yf_forget (post : SY → Prop) (h : post (a, sh, hl, dn, rg, ce, op, tg, nu, pp, sp, sm_hc 6 ht)) : wpY_forgetHits post (a, sh, hl, dn, rg, ce, op, tg, nu, pp, sp, ht) := by
  have i := yf_L post h 6 0 7 (by omega) (by omega)
  rw [xv_hc0] at i
  exact ⟨7, i⟩
theorem y_b0 : vp_nar .boolean 0 = 0 := by decide
theorem y_b1 : vp_nar .boolean 1 = 1 := by decide
theorem yo_227 (post : SY → Prop) (z0 : Int32) {d : Nat} (hd : d < 2 ^ 30) (h : post (z0, sh, hl, nI (d + 1), rg, ce, op, tg, nu, pp, upd sp (d % 48) 0, sm_hc 6 ht)) : wY_once_227 post z0 a sh hl (nI d) rg ce op tg nu pp sp ht := by
  have e : nI d - nI d / 48 * 48 = nI (d % 48) := pk_rem (a := d) (d := 48) (by omega) (by decide) (by decide)
  refine ⟨by decide, ?_, nm_r (e' := upd sp (d % 48) 0) ?_ (nm_r (nI_1 d) ?_)⟩
  · rw [e]
    exact vp_in_nI (by omega) (by decide)
  · rw [e, nI_clamp (by omega), y_b0]
  · exact yf_forget _ h
theorem yo_210 (post : SY → Prop) (x5 : Int32) {d : Nat} (hd : d < 2 ^ 30) (h : post (x5, sh, 0, nI (d + 1), rg, ce, op, tg, nu, pp, upd sp (d % 48) 0, sm_hc 6 ht)) : wY_once_210 post x5 a sh 0 (nI d) rg ce op tg nu pp sp ht :=
  br_t rfl (yo_227 post x5 hd h)
theorem yo_210h (post : SY → Prop) (x5 : Int32) {d : Nat} (hd : d < 2 ^ 30) (h : post (a, sh, 1, nI (d + 1), rg, ce, op, tg, nu, pp, upd sp (d % 48) 0, sm_hc 6 ht)) : wY_once_210 post x5 a sh 1 (nI d) rg ce op tg nu pp sp ht :=
  br_f (by decide) (yo_227 post a hd h)
theorem yo_rd (post : SY → Prop) {c t : Nat} (hc : c < 16) (ht4 : t < 4) (h : post (a, sh, hl, dn, upd rg t (ce c), ce, op, tg, nu, pp, upd sp (32 + c) 0, ht)) : wpY_useCell post (a, sh, hl, dn, rg, ce, op, tg, nu, pp, sp, ht) (nI c) (nI t) 0 := by
  have e : 32 + nI c = nI (32 + c) := nI_add 32 c
  refine ⟨?_, nm_r (e' := upd sp (32 + c) 0) ?_ (br_t rfl ⟨vp_in_nI hc (by decide), vp_in_nI ht4 (by decide), nm_r (e' := upd rg t (ce c)) ?_ h⟩)⟩
  · rw [e]
    exact vp_in_nI (by omega) (by decide)
  · rw [e, nI_clamp (by omega), y_b0]
  · rw [nI_clamp (by omega), nI_clamp (by omega)]
theorem yo_wr (post : SY → Prop) {c t : Nat} (hc : c < 16) (ht4 : t < 4) (h : post (a, sh, hl, dn, rg, upd ce c (rg t), op, tg, nu, pp, upd sp (32 + c) 0, ht)) : wpY_useCell post (a, sh, hl, dn, rg, ce, op, tg, nu, pp, sp, ht) (nI c) (nI t) 1 := by
  have e : 32 + nI c = nI (32 + c) := nI_add 32 c
  refine ⟨?_, nm_r (e' := upd sp (32 + c) 0) ?_ (br_f (by decide) ⟨vp_in_nI ht4 (by decide), vp_in_nI hc (by decide), nm_r (e' := upd ce c (rg t)) ?_ h⟩)⟩
  · rw [e]
    exact vp_in_nI (by omega) (by decide)
  · rw [e, nI_clamp (by omega), y_b0]
  · rw [nI_clamp (by omega), nI_clamp (by omega)]
end YSTEP
end
section
/-! 07: the reference's step, by operation (written by wip/whole/gen07.py) -/
section YONCE
variable {sh : Int32} {rg ce op tg nu pp sp ht : Nat → Int32}
def sm_calc (k : Nat) (x y n : Int32) : Int32 := if k = 1 then n else if k = 4 then (x + y) &&& 255 else if k = 5 then (x - y) &&& 255 else if k = 6 then x &&& y else if k = 7 then x ^^^ y else if k = 8 then x / 2 else x
theorem yo_stop (post : SY → Prop) {p d t nn : Nat} (hp : p < 32) (hd : d < 2 ^ 30) (e1 : op p = nI 0) (e2 : tg p = nI t) (e3 : nu p = nI nn) (ht4 : t < 4) (hn : nn < 256)
    (h : post (nI p, sh, 1, nI (d + 1), rg, ce, op, tg, nu, pp, upd (upd sp p 0) (d % 48) 0, sm_hc 6 ht)) : wpY_once post (nI p, sh, 0, nI d, rg, ce, op, tg, nu, pp, sp, ht) := by
  have c1 : op (nI p).toNatClampNeg = nI 0 := by rw [nI_clamp (by omega), e1]
  have c2 : tg (nI p).toNatClampNeg = nI t := by rw [nI_clamp (by omega), e2]
  have c3 : nu (nI p).toNatClampNeg = nI nn := by rw [nI_clamp (by omega), e3]
  have r4 : nI nn - nI nn / 4 * 4 = nI (nn % 4) := pk_rem (a := nn) (d := 4) (by omega) (by decide) (by decide)
  have i4 : vp_in (nI nn - nI nn / 4 * 4) 4 := by rw [r4]; exact vp_in_nI (by omega) (by decide)
  have c4 : rg (nI nn - nI nn / 4 * 4).toNatClampNeg = rg (nn % 4) := by rw [r4, nI_clamp (by omega)]
  have nx : (nI p + 1) - (nI p + 1) / 32 * 32 = nI ((p + 1) % 32) := by
    rw [nI_1]
    exact pk_rem (a := p + 1) (d := 32) (by omega) (by decide) (by decide)
  have c5 : upd sp (nI p).toNatClampNeg (vp_nar .boolean 0) = upd sp p 0 := by rw [nI_clamp (by omega), y_b0]
  refine ⟨vp_in_nI hp (by decide), nm_r c1 ⟨vp_in_nI hp (by decide), nm_r c2 ⟨vp_in_nI hp (by decide), nm_r c3 ⟨by decide, i4, nm_r c4 ⟨by decide, nm_r nx ⟨vp_in_nI (by omega) (by decide), nm_r c5 ?_⟩⟩⟩⟩⟩⟩
  repeat (first | refine br_t (by decide) ?_ | refine br_f (by decide) ?_)
  exact yo_227 post _ hd h
theorem yo_load (post : SY → Prop) {p d t nn : Nat} (hp : p < 32) (hd : d < 2 ^ 30) (e1 : op p = nI 2) (e2 : tg p = nI t) (e3 : nu p = nI nn) (ht4 : t < 4) (hn : nn < 256)
    (h : post (nI ((p + 1) % 32), sh, 0, nI (d + 1), upd rg t (ce (nn % 16)), ce, op, tg, nu, pp, upd (upd (upd sp p 0) (32 + nn % 16) 0) (d % 48) 0, sm_hc 6 ht)) : wpY_once post (nI p, sh, 0, nI d, rg, ce, op, tg, nu, pp, sp, ht) := by
  have c1 : op (nI p).toNatClampNeg = nI 2 := by rw [nI_clamp (by omega), e1]
  have c2 : tg (nI p).toNatClampNeg = nI t := by rw [nI_clamp (by omega), e2]
  have c3 : nu (nI p).toNatClampNeg = nI nn := by rw [nI_clamp (by omega), e3]
  have r4 : nI nn - nI nn / 4 * 4 = nI (nn % 4) := pk_rem (a := nn) (d := 4) (by omega) (by decide) (by decide)
  have i4 : vp_in (nI nn - nI nn / 4 * 4) 4 := by rw [r4]; exact vp_in_nI (by omega) (by decide)
  have c4 : rg (nI nn - nI nn / 4 * 4).toNatClampNeg = rg (nn % 4) := by rw [r4, nI_clamp (by omega)]
  have nx : (nI p + 1) - (nI p + 1) / 32 * 32 = nI ((p + 1) % 32) := by
    rw [nI_1]
    exact pk_rem (a := p + 1) (d := 32) (by omega) (by decide) (by decide)
  have c5 : upd sp (nI p).toNatClampNeg (vp_nar .boolean 0) = upd sp p 0 := by rw [nI_clamp (by omega), y_b0]
  refine ⟨vp_in_nI hp (by decide), nm_r c1 ⟨vp_in_nI hp (by decide), nm_r c2 ⟨vp_in_nI hp (by decide), nm_r c3 ⟨by decide, i4, nm_r c4 ⟨by decide, nm_r nx ⟨vp_in_nI (by omega) (by decide), nm_r c5 ?_⟩⟩⟩⟩⟩⟩
  have r16 : nI nn - nI nn / 16 * 16 = nI (nn % 16) := pk_rem (a := nn) (d := 16) (by omega) (by decide) (by decide)
  repeat (first | refine br_t (by decide) ?_ | refine br_f (by decide) ?_)
  refine ⟨by decide, ?_⟩
  repeat (first | refine br_t (by decide) ?_ | refine br_f (by decide) ?_)
  unfold wY_once_99
  rw [r16]
  exact yo_rd _ (by omega) ht4 (yo_210 post _ hd h)
theorem yo_store (post : SY → Prop) {p d t nn : Nat} (hp : p < 32) (hd : d < 2 ^ 30) (e1 : op p = nI 3) (e2 : tg p = nI t) (e3 : nu p = nI nn) (ht4 : t < 4) (hn : nn < 256)
    (h : post (nI ((p + 1) % 32), sh, 0, nI (d + 1), rg, upd ce (nn % 16) (rg t), op, tg, nu, pp, upd (upd (upd sp p 0) (32 + nn % 16) 0) (d % 48) 0, sm_hc 6 ht)) : wpY_once post (nI p, sh, 0, nI d, rg, ce, op, tg, nu, pp, sp, ht) := by
  have c1 : op (nI p).toNatClampNeg = nI 3 := by rw [nI_clamp (by omega), e1]
  have c2 : tg (nI p).toNatClampNeg = nI t := by rw [nI_clamp (by omega), e2]
  have c3 : nu (nI p).toNatClampNeg = nI nn := by rw [nI_clamp (by omega), e3]
  have r4 : nI nn - nI nn / 4 * 4 = nI (nn % 4) := pk_rem (a := nn) (d := 4) (by omega) (by decide) (by decide)
  have i4 : vp_in (nI nn - nI nn / 4 * 4) 4 := by rw [r4]; exact vp_in_nI (by omega) (by decide)
  have c4 : rg (nI nn - nI nn / 4 * 4).toNatClampNeg = rg (nn % 4) := by rw [r4, nI_clamp (by omega)]
  have nx : (nI p + 1) - (nI p + 1) / 32 * 32 = nI ((p + 1) % 32) := by
    rw [nI_1]
    exact pk_rem (a := p + 1) (d := 32) (by omega) (by decide) (by decide)
  have c5 : upd sp (nI p).toNatClampNeg (vp_nar .boolean 0) = upd sp p 0 := by rw [nI_clamp (by omega), y_b0]
  refine ⟨vp_in_nI hp (by decide), nm_r c1 ⟨vp_in_nI hp (by decide), nm_r c2 ⟨vp_in_nI hp (by decide), nm_r c3 ⟨by decide, i4, nm_r c4 ⟨by decide, nm_r nx ⟨vp_in_nI (by omega) (by decide), nm_r c5 ?_⟩⟩⟩⟩⟩⟩
  have r16 : nI nn - nI nn / 16 * 16 = nI (nn % 16) := pk_rem (a := nn) (d := 16) (by omega) (by decide) (by decide)
  repeat (first | refine br_t (by decide) ?_ | refine br_f (by decide) ?_)
  refine ⟨by decide, ?_⟩
  repeat (first | refine br_t (by decide) ?_ | refine br_f (by decide) ?_)
  unfold wY_once_99
  rw [r16]
  exact yo_wr _ (by omega) ht4 (yo_210 post _ hd h)
theorem yo_fetch (post : SY → Prop) {p d t nn : Nat} (hp : p < 32) (hd : d < 2 ^ 30) (e1 : op p = nI 12) (e2 : tg p = nI t) (e3 : nu p = nI nn) (ht4 : t < 4) (hn : nn < 256) {s : Nat} (hs : s < 256) (es : rg (nn % 4) = nI s)
    (h : post (nI ((p + 1) % 32), sh, 0, nI (d + 1), upd rg t (ce (s % 16)), ce, op, tg, nu, pp, upd (upd (upd sp p 0) (32 + s % 16) 0) (d % 48) 0, sm_hc 6 ht)) : wpY_once post (nI p, sh, 0, nI d, rg, ce, op, tg, nu, pp, sp, ht) := by
  have c1 : op (nI p).toNatClampNeg = nI 12 := by rw [nI_clamp (by omega), e1]
  have c2 : tg (nI p).toNatClampNeg = nI t := by rw [nI_clamp (by omega), e2]
  have c3 : nu (nI p).toNatClampNeg = nI nn := by rw [nI_clamp (by omega), e3]
  have r4 : nI nn - nI nn / 4 * 4 = nI (nn % 4) := pk_rem (a := nn) (d := 4) (by omega) (by decide) (by decide)
  have i4 : vp_in (nI nn - nI nn / 4 * 4) 4 := by rw [r4]; exact vp_in_nI (by omega) (by decide)
  have c4 : rg (nI nn - nI nn / 4 * 4).toNatClampNeg = rg (nn % 4) := by rw [r4, nI_clamp (by omega)]
  have nx : (nI p + 1) - (nI p + 1) / 32 * 32 = nI ((p + 1) % 32) := by
    rw [nI_1]
    exact pk_rem (a := p + 1) (d := 32) (by omega) (by decide) (by decide)
  have c5 : upd sp (nI p).toNatClampNeg (vp_nar .boolean 0) = upd sp p 0 := by rw [nI_clamp (by omega), y_b0]
  refine ⟨vp_in_nI hp (by decide), nm_r c1 ⟨vp_in_nI hp (by decide), nm_r c2 ⟨vp_in_nI hp (by decide), nm_r c3 ⟨by decide, i4, nm_r c4 ⟨by decide, nm_r nx ⟨vp_in_nI (by omega) (by decide), nm_r c5 ?_⟩⟩⟩⟩⟩⟩
  rw [es]
  have r16 : nI s - nI s / 16 * 16 = nI (s % 16) := pk_rem (a := s) (d := 16) (by omega) (by decide) (by decide)
  repeat (first | refine br_t (by decide) ?_ | refine br_f (by decide) ?_)
  refine ⟨by decide, ?_⟩
  repeat (first | refine br_t (by decide) ?_ | refine br_f (by decide) ?_)
  unfold wY_once_135
  rw [r16]
  exact yo_rd _ (by omega) ht4 (yo_210 post _ hd h)
theorem yo_keep (post : SY → Prop) {p d t nn : Nat} (hp : p < 32) (hd : d < 2 ^ 30) (e1 : op p = nI 13) (e2 : tg p = nI t) (e3 : nu p = nI nn) (ht4 : t < 4) (hn : nn < 256) {s : Nat} (hs : s < 256) (es : rg (nn % 4) = nI s)
    (h : post (nI ((p + 1) % 32), sh, 0, nI (d + 1), rg, upd ce (s % 16) (rg t), op, tg, nu, pp, upd (upd (upd sp p 0) (32 + s % 16) 0) (d % 48) 0, sm_hc 6 ht)) : wpY_once post (nI p, sh, 0, nI d, rg, ce, op, tg, nu, pp, sp, ht) := by
  have c1 : op (nI p).toNatClampNeg = nI 13 := by rw [nI_clamp (by omega), e1]
  have c2 : tg (nI p).toNatClampNeg = nI t := by rw [nI_clamp (by omega), e2]
  have c3 : nu (nI p).toNatClampNeg = nI nn := by rw [nI_clamp (by omega), e3]
  have r4 : nI nn - nI nn / 4 * 4 = nI (nn % 4) := pk_rem (a := nn) (d := 4) (by omega) (by decide) (by decide)
  have i4 : vp_in (nI nn - nI nn / 4 * 4) 4 := by rw [r4]; exact vp_in_nI (by omega) (by decide)
  have c4 : rg (nI nn - nI nn / 4 * 4).toNatClampNeg = rg (nn % 4) := by rw [r4, nI_clamp (by omega)]
  have nx : (nI p + 1) - (nI p + 1) / 32 * 32 = nI ((p + 1) % 32) := by
    rw [nI_1]
    exact pk_rem (a := p + 1) (d := 32) (by omega) (by decide) (by decide)
  have c5 : upd sp (nI p).toNatClampNeg (vp_nar .boolean 0) = upd sp p 0 := by rw [nI_clamp (by omega), y_b0]
  refine ⟨vp_in_nI hp (by decide), nm_r c1 ⟨vp_in_nI hp (by decide), nm_r c2 ⟨vp_in_nI hp (by decide), nm_r c3 ⟨by decide, i4, nm_r c4 ⟨by decide, nm_r nx ⟨vp_in_nI (by omega) (by decide), nm_r c5 ?_⟩⟩⟩⟩⟩⟩
  rw [es]
  have r16 : nI s - nI s / 16 * 16 = nI (s % 16) := pk_rem (a := s) (d := 16) (by omega) (by decide) (by decide)
  repeat (first | refine br_t (by decide) ?_ | refine br_f (by decide) ?_)
  refine ⟨by decide, ?_⟩
  repeat (first | refine br_t (by decide) ?_ | refine br_f (by decide) ?_)
  unfold wY_once_135
  rw [r16]
  exact yo_wr _ (by omega) ht4 (yo_210 post _ hd h)
theorem yo_out (post : SY → Prop) {p d t nn : Nat} (hp : p < 32) (hd : d < 2 ^ 30) (e1 : op p = nI 11) (e2 : tg p = nI t) (e3 : nu p = nI nn) (ht4 : t < 4) (hn : nn < 256) {o : Nat} (ho : o < 16) (eo : sh = nI o)
    (h : post (nI ((p + 1) % 32), nI (o + 1), 0, nI (d + 1), rg, ce, op, tg, nu, upd pp o (rg t), upd (upd sp p 0) (d % 48) 0, sm_hc 6 ht)) : wpY_once post (nI p, sh, 0, nI d, rg, ce, op, tg, nu, pp, sp, ht) := by
  have c1 : op (nI p).toNatClampNeg = nI 11 := by rw [nI_clamp (by omega), e1]
  have c2 : tg (nI p).toNatClampNeg = nI t := by rw [nI_clamp (by omega), e2]
  have c3 : nu (nI p).toNatClampNeg = nI nn := by rw [nI_clamp (by omega), e3]
  have r4 : nI nn - nI nn / 4 * 4 = nI (nn % 4) := pk_rem (a := nn) (d := 4) (by omega) (by decide) (by decide)
  have i4 : vp_in (nI nn - nI nn / 4 * 4) 4 := by rw [r4]; exact vp_in_nI (by omega) (by decide)
  have c4 : rg (nI nn - nI nn / 4 * 4).toNatClampNeg = rg (nn % 4) := by rw [r4, nI_clamp (by omega)]
  have nx : (nI p + 1) - (nI p + 1) / 32 * 32 = nI ((p + 1) % 32) := by
    rw [nI_1]
    exact pk_rem (a := p + 1) (d := 32) (by omega) (by decide) (by decide)
  have c5 : upd sp (nI p).toNatClampNeg (vp_nar .boolean 0) = upd sp p 0 := by rw [nI_clamp (by omega), y_b0]
  refine ⟨vp_in_nI hp (by decide), nm_r c1 ⟨vp_in_nI hp (by decide), nm_r c2 ⟨vp_in_nI hp (by decide), nm_r c3 ⟨by decide, i4, nm_r c4 ⟨by decide, nm_r nx ⟨vp_in_nI (by omega) (by decide), nm_r c5 ?_⟩⟩⟩⟩⟩⟩
  have ct : rg (nI t).toNatClampNeg = rg t := by rw [nI_clamp (by omega)]
  repeat (first | refine br_t (by decide) ?_ | refine br_f (by decide) ?_)
  refine ⟨vp_in_nI ht4 (by decide), ?_⟩
  rw [ct, eo]
  refine br_f ?_ ⟨vp_in_nI ho (by decide), nm_r (e' := upd pp o (rg t)) (by rw [nI_clamp (by omega)]) (nm_r (nI_1 o) ?_)⟩
  · exact fun z => absurd ((nI_eq (b := 16) (by omega) (by decide)).mp z) (by omega)
  · exact yo_210 post _ hd h
theorem yo_full (post : SY → Prop) {p d t nn : Nat} (hp : p < 32) (hd : d < 2 ^ 30) (e1 : op p = nI 11) (e2 : tg p = nI t) (e3 : nu p = nI nn) (ht4 : t < 4) (hn : nn < 256) (eo : sh = nI 16)
    (h : post (nI p, sh, 1, nI (d + 1), rg, ce, op, tg, nu, pp, upd (upd sp p 0) (d % 48) 0, sm_hc 6 ht)) : wpY_once post (nI p, sh, 0, nI d, rg, ce, op, tg, nu, pp, sp, ht) := by
  have c1 : op (nI p).toNatClampNeg = nI 11 := by rw [nI_clamp (by omega), e1]
  have c2 : tg (nI p).toNatClampNeg = nI t := by rw [nI_clamp (by omega), e2]
  have c3 : nu (nI p).toNatClampNeg = nI nn := by rw [nI_clamp (by omega), e3]
  have r4 : nI nn - nI nn / 4 * 4 = nI (nn % 4) := pk_rem (a := nn) (d := 4) (by omega) (by decide) (by decide)
  have i4 : vp_in (nI nn - nI nn / 4 * 4) 4 := by rw [r4]; exact vp_in_nI (by omega) (by decide)
  have c4 : rg (nI nn - nI nn / 4 * 4).toNatClampNeg = rg (nn % 4) := by rw [r4, nI_clamp (by omega)]
  have nx : (nI p + 1) - (nI p + 1) / 32 * 32 = nI ((p + 1) % 32) := by
    rw [nI_1]
    exact pk_rem (a := p + 1) (d := 32) (by omega) (by decide) (by decide)
  have c5 : upd sp (nI p).toNatClampNeg (vp_nar .boolean 0) = upd sp p 0 := by rw [nI_clamp (by omega), y_b0]
  refine ⟨vp_in_nI hp (by decide), nm_r c1 ⟨vp_in_nI hp (by decide), nm_r c2 ⟨vp_in_nI hp (by decide), nm_r c3 ⟨by decide, i4, nm_r c4 ⟨by decide, nm_r nx ⟨vp_in_nI (by omega) (by decide), nm_r c5 ?_⟩⟩⟩⟩⟩⟩
  repeat (first | refine br_t (by decide) ?_ | refine br_f (by decide) ?_)
  refine ⟨vp_in_nI ht4 (by decide), ?_⟩
  refine br_t eo ?_
  exact yo_210h post _ hd h
theorem yo_jump (post : SY → Prop) {p d t nn : Nat} (hp : p < 32) (hd : d < 2 ^ 30) (e1 : op p = nI 9) (e2 : tg p = nI t) (e3 : nu p = nI nn) (ht4 : t < 4) (hn : nn < 256)
    (h : post (nI (nn % 32), sh, 0, nI (d + 1), rg, ce, op, tg, nu, pp, upd (upd sp p 0) (d % 48) 0, sm_hc 6 ht)) : wpY_once post (nI p, sh, 0, nI d, rg, ce, op, tg, nu, pp, sp, ht) := by
  have c1 : op (nI p).toNatClampNeg = nI 9 := by rw [nI_clamp (by omega), e1]
  have c2 : tg (nI p).toNatClampNeg = nI t := by rw [nI_clamp (by omega), e2]
  have c3 : nu (nI p).toNatClampNeg = nI nn := by rw [nI_clamp (by omega), e3]
  have r4 : nI nn - nI nn / 4 * 4 = nI (nn % 4) := pk_rem (a := nn) (d := 4) (by omega) (by decide) (by decide)
  have i4 : vp_in (nI nn - nI nn / 4 * 4) 4 := by rw [r4]; exact vp_in_nI (by omega) (by decide)
  have c4 : rg (nI nn - nI nn / 4 * 4).toNatClampNeg = rg (nn % 4) := by rw [r4, nI_clamp (by omega)]
  have nx : (nI p + 1) - (nI p + 1) / 32 * 32 = nI ((p + 1) % 32) := by
    rw [nI_1]
    exact pk_rem (a := p + 1) (d := 32) (by omega) (by decide) (by decide)
  have c5 : upd sp (nI p).toNatClampNeg (vp_nar .boolean 0) = upd sp p 0 := by rw [nI_clamp (by omega), y_b0]
  refine ⟨vp_in_nI hp (by decide), nm_r c1 ⟨vp_in_nI hp (by decide), nm_r c2 ⟨vp_in_nI hp (by decide), nm_r c3 ⟨by decide, i4, nm_r c4 ⟨by decide, nm_r nx ⟨vp_in_nI (by omega) (by decide), nm_r c5 ?_⟩⟩⟩⟩⟩⟩
  have r32 : nI nn - nI nn / 32 * 32 = nI (nn % 32) := pk_rem (a := nn) (d := 32) (by omega) (by decide) (by decide)
  repeat (first | refine br_t (by decide) ?_ | refine br_f (by decide) ?_)
  refine ⟨by decide, nm_r r32 ?_⟩
  exact yo_210 post _ hd h
theorem yo_zero (post : SY → Prop) {p d t nn : Nat} (hp : p < 32) (hd : d < 2 ^ 30) (e1 : op p = nI 10) (e2 : tg p = nI t) (e3 : nu p = nI nn) (ht4 : t < 4) (hn : nn < 256) (ez : rg t = 0)
    (h : post (nI (nn % 32), sh, 0, nI (d + 1), rg, ce, op, tg, nu, pp, upd (upd sp p 0) (d % 48) 0, sm_hc 6 ht)) : wpY_once post (nI p, sh, 0, nI d, rg, ce, op, tg, nu, pp, sp, ht) := by
  have c1 : op (nI p).toNatClampNeg = nI 10 := by rw [nI_clamp (by omega), e1]
  have c2 : tg (nI p).toNatClampNeg = nI t := by rw [nI_clamp (by omega), e2]
  have c3 : nu (nI p).toNatClampNeg = nI nn := by rw [nI_clamp (by omega), e3]
  have r4 : nI nn - nI nn / 4 * 4 = nI (nn % 4) := pk_rem (a := nn) (d := 4) (by omega) (by decide) (by decide)
  have i4 : vp_in (nI nn - nI nn / 4 * 4) 4 := by rw [r4]; exact vp_in_nI (by omega) (by decide)
  have c4 : rg (nI nn - nI nn / 4 * 4).toNatClampNeg = rg (nn % 4) := by rw [r4, nI_clamp (by omega)]
  have nx : (nI p + 1) - (nI p + 1) / 32 * 32 = nI ((p + 1) % 32) := by
    rw [nI_1]
    exact pk_rem (a := p + 1) (d := 32) (by omega) (by decide) (by decide)
  have c5 : upd sp (nI p).toNatClampNeg (vp_nar .boolean 0) = upd sp p 0 := by rw [nI_clamp (by omega), y_b0]
  refine ⟨vp_in_nI hp (by decide), nm_r c1 ⟨vp_in_nI hp (by decide), nm_r c2 ⟨vp_in_nI hp (by decide), nm_r c3 ⟨by decide, i4, nm_r c4 ⟨by decide, nm_r nx ⟨vp_in_nI (by omega) (by decide), nm_r c5 ?_⟩⟩⟩⟩⟩⟩
  have r32 : nI nn - nI nn / 32 * 32 = nI (nn % 32) := pk_rem (a := nn) (d := 32) (by omega) (by decide) (by decide)
  have ct : rg (nI t).toNatClampNeg = rg t := by rw [nI_clamp (by omega)]
  repeat (first | refine br_t (by decide) ?_ | refine br_f (by decide) ?_)
  refine ⟨vp_in_nI ht4 (by decide), ?_⟩
  rw [ct]
  refine br_t ez ⟨by decide, nm_r r32 ?_⟩
  exact yo_210 post _ hd h
theorem yo_nz (post : SY → Prop) {p d t nn : Nat} (hp : p < 32) (hd : d < 2 ^ 30) (e1 : op p = nI 10) (e2 : tg p = nI t) (e3 : nu p = nI nn) (ht4 : t < 4) (hn : nn < 256) (ez : ¬ rg t = 0)
    (h : post (nI ((p + 1) % 32), sh, 0, nI (d + 1), upd rg t (rg t), ce, op, tg, nu, pp, upd (upd sp p 0) (d % 48) 0, sm_hc 6 ht)) : wpY_once post (nI p, sh, 0, nI d, rg, ce, op, tg, nu, pp, sp, ht) := by
  have c1 : op (nI p).toNatClampNeg = nI 10 := by rw [nI_clamp (by omega), e1]
  have c2 : tg (nI p).toNatClampNeg = nI t := by rw [nI_clamp (by omega), e2]
  have c3 : nu (nI p).toNatClampNeg = nI nn := by rw [nI_clamp (by omega), e3]
  have r4 : nI nn - nI nn / 4 * 4 = nI (nn % 4) := pk_rem (a := nn) (d := 4) (by omega) (by decide) (by decide)
  have i4 : vp_in (nI nn - nI nn / 4 * 4) 4 := by rw [r4]; exact vp_in_nI (by omega) (by decide)
  have c4 : rg (nI nn - nI nn / 4 * 4).toNatClampNeg = rg (nn % 4) := by rw [r4, nI_clamp (by omega)]
  have nx : (nI p + 1) - (nI p + 1) / 32 * 32 = nI ((p + 1) % 32) := by
    rw [nI_1]
    exact pk_rem (a := p + 1) (d := 32) (by omega) (by decide) (by decide)
  have c5 : upd sp (nI p).toNatClampNeg (vp_nar .boolean 0) = upd sp p 0 := by rw [nI_clamp (by omega), y_b0]
  refine ⟨vp_in_nI hp (by decide), nm_r c1 ⟨vp_in_nI hp (by decide), nm_r c2 ⟨vp_in_nI hp (by decide), nm_r c3 ⟨by decide, i4, nm_r c4 ⟨by decide, nm_r nx ⟨vp_in_nI (by omega) (by decide), nm_r c5 ?_⟩⟩⟩⟩⟩⟩
  have ct : rg (nI t).toNatClampNeg = rg t := by rw [nI_clamp (by omega)]
  repeat (first | refine br_t (by decide) ?_ | refine br_f (by decide) ?_)
  refine ⟨vp_in_nI ht4 (by decide), ?_⟩
  rw [ct]
  refine br_f ez ?_
  unfold wY_once_190
  refine ⟨vp_in_nI ht4 (by decide), ?_⟩
  rw [ct]
  unfold wpY_calculated
  repeat (first | refine br_t (by decide) ?_ | refine br_f (by decide) ?_)
  refine ⟨vp_in_nI ht4 (by decide), nm_r (e' := upd rg t (rg t)) (by rw [nI_clamp (by omega)]) ?_⟩
  exact yo_210 post _ hd h
theorem yo_calc (post : SY → Prop) {p d t nn k : Nat} (hp : p < 32) (hd : d < 2 ^ 30) (e1 : op p = nI k) (e2 : tg p = nI t) (e3 : nu p = nI nn) (ht4 : t < 4) (hn : nn < 256) (hk : k = 1 ∨ k = 4 ∨ k = 5 ∨ k = 6 ∨ k = 7 ∨ k = 8)
    (h : post (nI ((p + 1) % 32), sh, 0, nI (d + 1), upd rg t (sm_calc k (rg t) (rg (nn % 4)) (nI nn)), ce, op, tg, nu, pp, upd (upd sp p 0) (d % 48) 0, sm_hc 6 ht)) : wpY_once post (nI p, sh, 0, nI d, rg, ce, op, tg, nu, pp, sp, ht) := by
  have c1 : op (nI p).toNatClampNeg = nI k := by rw [nI_clamp (by omega), e1]
  have c2 : tg (nI p).toNatClampNeg = nI t := by rw [nI_clamp (by omega), e2]
  have c3 : nu (nI p).toNatClampNeg = nI nn := by rw [nI_clamp (by omega), e3]
  have r4 : nI nn - nI nn / 4 * 4 = nI (nn % 4) := pk_rem (a := nn) (d := 4) (by omega) (by decide) (by decide)
  have i4 : vp_in (nI nn - nI nn / 4 * 4) 4 := by rw [r4]; exact vp_in_nI (by omega) (by decide)
  have c4 : rg (nI nn - nI nn / 4 * 4).toNatClampNeg = rg (nn % 4) := by rw [r4, nI_clamp (by omega)]
  have nx : (nI p + 1) - (nI p + 1) / 32 * 32 = nI ((p + 1) % 32) := by
    rw [nI_1]
    exact pk_rem (a := p + 1) (d := 32) (by omega) (by decide) (by decide)
  have c5 : upd sp (nI p).toNatClampNeg (vp_nar .boolean 0) = upd sp p 0 := by rw [nI_clamp (by omega), y_b0]
  refine ⟨vp_in_nI hp (by decide), nm_r c1 ⟨vp_in_nI hp (by decide), nm_r c2 ⟨vp_in_nI hp (by decide), nm_r c3 ⟨by decide, i4, nm_r c4 ⟨by decide, nm_r nx ⟨vp_in_nI (by omega) (by decide), nm_r c5 ?_⟩⟩⟩⟩⟩⟩
  have ct : rg (nI t).toNatClampNeg = rg t := by rw [nI_clamp (by omega)]
  rcases hk with rfl | rfl | rfl | rfl | rfl | rfl
  all_goals
    repeat (first | refine br_t (by decide) ?_ | refine br_f (by decide) ?_)
    unfold wY_once_190
    refine ⟨vp_in_nI ht4 (by decide), ?_⟩
    rw [ct]
    unfold wpY_calculated
    repeat (first | refine br_t (by decide) ?_ | refine br_f (by decide) ?_)
    first
      | refine ⟨vp_in_nI ht4 (by decide), nm_r (e' := upd rg t _) (by rw [nI_clamp (by omega)]) ?_⟩
      | refine ⟨by decide, vp_in_nI ht4 (by decide), nm_r (e' := upd rg t _) (by rw [nI_clamp (by omega)]) ?_⟩
    exact yo_210 post _ hd h
end YONCE
end
section
/-! 08: the relation, and a step of both -/
def sm_F (p o d : Nat) (hl : Int32) (cp hc cw sw rg ce op tg nu sp ht : Nat → Int32) : Prop := p < 32 ∧ o ≤ 16 ∧ d < 2 ^ 30 ∧ (hl = 0 ∨ hl = 1) ∧ sm_CP cp hc (sm_val rg (nI p)) ∧ (∀ s, s < 6 → hc s = ht s) ∧ (∀ r, r < 4 → sm_By (rg r)) ∧ sm_Ws cw sw ce op tg nu sp
def sm_R (d : Nat) (u : SX) (v : SY) : Prop := ∃ (p o : Nat) (hl : Int32) (cp hc cw sw ob rg ce op tg nu sp ht : Nat → Int32), u = (nI o, hl, nI (d % 48), cp, hc, cw, sw, ob) ∧ v = (nI p, nI o, hl, nI d, rg, ce, op, tg, nu, ob, sp, ht) ∧ sm_F p o d hl cp hc cw sw rg ce op tg nu sp ht
def sm_Ends (d : Nat) (u : SX) (v : SY) : Prop := ∃ u' v', (∀ post : SX → Prop, post u' → wpX_doStep post u) ∧ (∀ post : SY → Prop, post v' → wpY_once post v) ∧ sm_R (d + 1) u' v'
section STEP
variable {p o d : Nat} {hl : Int32} {cp hc cw sw ob rg ce op tg nu sp ht : Nat → Int32}
def sm_Z (hc : Nat → Int32) : Prop := ∀ s, s < 6 → hc s = 0
theorem sm_Z_u {k : Nat} (h : sm_Z hc) : sm_Z (upd hc k 0) := by
  intro s hs
  by_cases z : s = k
  · rw [z, pk_us]
  · rw [pk_un z]
    exact h s hs
theorem sm_Z_h : sm_Z (sm_hc 6 hc) := fun _ hs => if_pos hs
theorem sm_Z_5 : sm_Z (upd (sm_hc 5 hc) 5 0) := by
  rw [xv_hc]
  exact sm_Z_h
theorem sm_Z_e (h : sm_Z hc) : ∀ s, s < 6 → hc s = sm_hc 6 ht s := fun s hs => (h s hs).trans (sm_Z_h s hs).symm
theorem st_C5 {rg : Nat → Int32} {x : Int32} : sm_CP (sm_w3 (sm_hp 5 (sm_val rg x) cp) 5 0) (upd (sm_hc 5 hc) 5 0) (sm_val rg x) := by
  have e : sm_w3 (sm_hp 5 (sm_val rg x) cp) 5 0 = sm_hp 6 (sm_val rg x) cp := xv_hp 5 (sm_val rg x) cp
  rw [e, xv_hc]
  exact sm_CP_h cp hc
theorem st_C4 {x y : Int32} (C : sm_CP cp hc (sm_val rg x)) : sm_CP (sm_w3 cp 4 y) (upd hc 4 0) (sm_val rg y) := by
  refine sm_CP_w C sm_val_4 (fun t ht => ?_)
  unfold sm_val
  rw [if_neg ht, if_neg ht]
theorem st_Cr {t : Nat} (ht4 : t < 4) {x y : Int32} (C : sm_CP cp hc (sm_val rg x)) : sm_CP (sm_w3 cp t y) (upd hc t 0) (sm_val (upd rg t y) x) := by
  refine sm_CP_w C ?_ (fun s hs => ?_)
  · rw [sm_val_r ht4, pk_us]
  · unfold sm_val
    rw [pk_un hs]
theorem st_H5 {x : Int32} (C : sm_CP cp hc (sm_val rg x)) : ∀ j, j < 3 → hc 5 ≠ nI (j + 1) → sm_hp 5 (sm_val rg x) cp (5 * 3 + j) = 0 := xv_hpv C (by decide)
theorem st_By {t : Nat} {x : Int32} (B : ∀ r, r < 4 → sm_By (rg r)) (h : sm_By x) : ∀ r, r < 4 → sm_By (upd rg t x r) := by
  intro r hr
  by_cases z : r = t
  · rw [z, pk_us]
    exact h
  · rw [pk_un z]
    exact B r hr
theorem st_n {oc oc' hl' wv : Int32} {cp' hc' cw' sw' ob' ce' sp' : Nat → Int32} {on t nn wn sn : Nat} (hp : p < 32) (C : sm_CP cp hc (sm_val rg (nI p))) (h1 : on < 14) (h2 : t < 4) (h3 : nn < 256) (ew : sw p = nI wn) (W : sm_Wd 22 (on * 1024 + t * 256 + nn) wn sn)
    (hcell : ∀ post' : Int32 → Prop, post' (-1) → wpX_cellOfStep post' (nI on) (nI nn) (rg (nn % 4)))
    (hW : ∀ post' : Int32 → Prop, post' wv → wpX_workedOut post' (nI on) (rg t) (nI nn) (rg (nn % 4)) 0 (nI p))
    (hf : ∀ post' : SX → Prop, post' (oc', hl', nI (d % 48), cp', hc', cw', sw', ob') → wpX_finishStep post' (oc, hl, nI (d % 48), sm_w3 (sm_hp 5 (sm_val rg (nI p)) cp) 5 0, upd (sm_hc 5 hc) 5 0, cw, upd sw p (nI (sm_en 22 (on * 1024 + t * 256 + nn))), ob) (nI on) (nI t) (-1) (nI p) wv)
    (Hw : sm_Ws cw' sw' ce' op tg nu sp') : ∃ cw2 sw2, sm_Ws cw2 sw2 ce' op tg nu (upd sp' (d % 48) 0) ∧ ∀ post : SX → Prop, post (oc', hl', nI ((d + 1) % 48), cp', hc', cw2, sw2, ob') → wpX_doStep post (oc, hl, nI (d % 48), cp, hc, cw, sw, ob) := by
  obtain ⟨cw2, sw2, w1, w2⟩ := ws_turn Hw d
  exact ⟨cw2, sw2, w1, fun post h => xd_none post hp C h1 h2 h3 ew W hcell (xd_work post hW (st_H5 C) hf (fun post' h' => w2 post' _ _ _ _ _ h') h)⟩
theorem st_c {oc oc' hl' wv : Int32} {cp' hc' cw' sw' ob' ce' sp' : Nat → Int32} {on t nn wn sn c cv cwn csn : Nat} (hp : p < 32) (C : sm_CP cp hc (sm_val rg (nI p))) (h1 : on < 14) (h2 : t < 4) (h3 : nn < 256) (ew : sw p = nI wn) (W : sm_Wd 22 (on * 1024 + t * 256 + nn) wn sn)
    (hc16 : c < 16) (ec : cw c = nI cwn) (Wc : sm_Wd 13 cv cwn csn)
    (hcell : ∀ post' : Int32 → Prop, post' (nI c) → wpX_cellOfStep post' (nI on) (nI nn) (rg (nn % 4)))
    (hW : ∀ post' : Int32 → Prop, post' wv → wpX_workedOut post' (nI on) (rg t) (nI nn) (rg (nn % 4)) (nI cv) (nI p))
    (hf : ∀ post' : SX → Prop, post' (oc', hl', nI (d % 48), cp', hc', cw', sw', ob') → wpX_finishStep post' (oc, hl, nI (d % 48), sm_w3 (sm_hp 5 (sm_val rg (nI p)) cp) 5 0, upd (sm_hc 5 hc) 5 0, upd cw c (nI (sm_en 13 cv)), upd sw p (nI (sm_en 22 (on * 1024 + t * 256 + nn))), ob) (nI on) (nI t) (nI c) (nI p) wv)
    (Hw : sm_Ws cw' sw' ce' op tg nu sp') : ∃ cw2 sw2, sm_Ws cw2 sw2 ce' op tg nu (upd sp' (d % 48) 0) ∧ ∀ post : SX → Prop, post (oc', hl', nI ((d + 1) % 48), cp', hc', cw2, sw2, ob') → wpX_doStep post (oc, hl, nI (d % 48), cp, hc, cw, sw, ob) := by
  obtain ⟨cw2, sw2, w1, w2⟩ := ws_turn Hw d
  exact ⟨cw2, sw2, w1, fun post h => xd_cell post hp C h1 h2 h3 ew W hc16 ec Wc hcell (xd_work post hW (st_H5 C) hf (fun post' h' => w2 post' _ _ _ _ _ h') h)⟩
/-! bytes -/
theorem by_and (x : Int32) : sm_By (x &&& 255) := by
  refine ⟨x.toBitVec.toNat % 2 ^ 8, Nat.mod_lt _ (by decide), pk_and x 8 (by decide)⟩
theorem by_n {n : Nat} (h : n < 256) : sm_By (nI n) := ⟨n, h, rfl⟩
theorem by_calc {k nn : Nat} {x y : Int32} (hn : nn < 256) (hx : sm_By x) (hy : sm_By y) : sm_By (sm_calc k x y (nI nn)) := by
  obtain ⟨a, ha, rfl⟩ := hx
  obtain ⟨b, hb, rfl⟩ := hy
  unfold sm_calc
  split
  · exact by_n hn
  split
  · exact by_and _
  split
  · exact by_and _
  split
  · rw [nx_and]
    exact by_n (Nat.lt_of_le_of_lt Nat.and_le_left ha)
  split
  · rw [nx_xor]
    exact by_n (Nat.xor_lt_two_pow (n := 8) ha hb)
  split
  · rw [show nI a / 2 = nI (a / 2) from pk_div (d := 2) (by omega) (by decide) (by decide)]
    exact by_n (by omega)
  · exact by_n ha
theorem sw_calc {k : Nat} {x y n h a : Int32} (hx : sm_By x) (hk : k = 1 ∨ k = 4 ∨ k = 5 ∨ k = 6 ∨ k = 7 ∨ k = 8) (post' : Int32 → Prop) (hp : post' (sm_calc k x y n)) : wpX_workedOut post' (nI k) x n y h a := by
  rcases hk with rfl | rfl | rfl | rfl | rfl | rfl
  · repeat (first | refine br_t (by decide) ?_ | refine br_f (by decide) ?_)
    exact hp
  · repeat (first | refine br_t (by decide) ?_ | refine br_f (by decide) ?_)
    exact hp
  · repeat (first | refine br_t (by decide) ?_ | refine br_f (by decide) ?_)
    exact hp
  · repeat (first | refine br_t (by decide) ?_ | refine br_f (by decide) ?_)
    exact hp
  · repeat (first | refine br_t (by decide) ?_ | refine br_f (by decide) ?_)
    exact hp
  · obtain ⟨b, hb, rfl⟩ := hx
    have e : nI b >>> ((1 : Int32) &&& 31) = nI b / 2 := by
      rw [show nI b / 2 = nI (b / 2) from pk_div (d := 2) (by omega) (by decide) (by decide)]
      exact pk_shrN (by omega) _ 1 (by decide)
    repeat (first | refine br_t (by decide) ?_ | refine br_f (by decide) ?_)
    rw [e]
    exact hp
theorem sc_none {k : Nat} {n s : Int32} (hk : k < 14) (hn : k ≠ 2 ∧ k ≠ 3 ∧ k ≠ 12 ∧ k ≠ 13) (post' : Int32 → Prop) (h : post' (-1)) : wpX_cellOfStep post' (nI k) n s :=
  br_f (fun z => hn.1 ((nI_eq (b := 2) (by omega) (by decide)).mp z)) (br_f (fun z => hn.2.1 ((nI_eq (b := 3) (by omega) (by decide)).mp z)) (br_f (fun z => hn.2.2.1 ((nI_eq (b := 12) (by omega) (by decide)).mp z)) (br_f (fun z => hn.2.2.2 ((nI_eq (b := 13) (by omega) (by decide)).mp z)) h)))
theorem sc_n {k nn : Nat} {s : Int32} (hk : k = 2 ∨ k = 3) (hn : nn < 256) (post' : Int32 → Prop) (h : post' (nI (nn % 16))) : wpX_cellOfStep post' (nI k) (nI nn) s := by
  have e : nI nn &&& 15 = nI (nn % 16) := pk_andN (by omega) 4 (by decide)
  rw [← e] at h
  rcases hk with rfl | rfl
  all_goals
    repeat (first | refine br_t (by decide) ?_ | refine br_f (by decide) ?_)
    exact h
theorem sc_s {k s : Nat} {n : Int32} (hk : k = 12 ∨ k = 13) (hs : s < 256) (post' : Int32 → Prop) (h : post' (nI (s % 16))) : wpX_cellOfStep post' (nI k) n (nI s) := by
  have e : nI s &&& 15 = nI (s % 16) := pk_andN (by omega) 4 (by decide)
  rw [← e] at h
  rcases hk with rfl | rfl
  all_goals
    repeat (first | refine br_t (by decide) ?_ | refine br_f (by decide) ?_)
    exact h
end STEP
end
section
/-! 09: a step of both, by operation -/
section STEPS
variable {p o d t nn wn sn : Nat} {cp hc cw sw ob rg ce op tg nu sp ht : Nat → Int32}
theorem sp_stop (F : sm_F p o d 0 cp hc cw sw rg ce op tg nu sp ht) (hd : d + 1 < 2 ^ 30) (e1 : op p = nI 0) (e2 : tg p = nI t) (e3 : nu p = nI nn) (h2 : t < 4) (h3 : nn < 256) (ew : sw p = nI wn) (W : sm_Wd 22 (0 * 1024 + t * 256 + nn) wn sn) : sm_Ends d (nI o, 0, nI (d % 48), cp, hc, cw, sw, ob) (nI p, nI o, 0, nI d, rg, ce, op, tg, nu, ob, sp, ht) := by
  obtain ⟨hp, ho, hd', _, C, _, B, S⟩ := F
  obtain ⟨cw2, sw2, w, X⟩ := st_n (oc := nI o) (hl := 0) (ob := ob) (d := d) (wv := rg t) hp C (by decide) h2 h3 ew W (sc_none (by decide) (by decide))
    (fun post' h => by
      repeat (first | refine br_t (by decide) ?_ | refine br_f (by decide) ?_)
      exact h) (fun post' h => xf_stop post' hp h) (ws_step S hp (by decide) h2 h3 e1 e2 e3)
  exact ⟨_, _, X, fun post h => yo_stop post hp hd' e1 e2 e3 h2 h3 h, p, o, 1, _, _, cw2, sw2, ob, rg, ce, op, tg, nu, _, _, rfl, rfl, hp, ho, hd, Or.inr rfl, st_C4 st_C5, sm_Z_e (sm_Z_u sm_Z_5), B, w⟩
theorem sp_calc {k : Nat} (F : sm_F p o d 0 cp hc cw sw rg ce op tg nu sp ht) (hd : d + 1 < 2 ^ 30) (hk : k = 1 ∨ k = 4 ∨ k = 5 ∨ k = 6 ∨ k = 7 ∨ k = 8) (e1 : op p = nI k) (e2 : tg p = nI t) (e3 : nu p = nI nn) (h2 : t < 4) (h3 : nn < 256) (ew : sw p = nI wn) (W : sm_Wd 22 (k * 1024 + t * 256 + nn) wn sn) : sm_Ends d (nI o, 0, nI (d % 48), cp, hc, cw, sw, ob) (nI p, nI o, 0, nI d, rg, ce, op, tg, nu, ob, sp, ht) := by
  obtain ⟨hp, ho, hd', _, C, _, B, S⟩ := F
  obtain ⟨cw2, sw2, w, X⟩ := st_n (oc := nI o) (hl := 0) (ob := ob) (d := d) hp C (by omega) h2 h3 ew W (sc_none (by omega) (by omega))
    (sw_calc (B t h2) hk) (fun post' h => xf_reg post' hp h2 (by omega) h) (ws_step S hp (by omega) h2 h3 e1 e2 e3)
  exact ⟨_, _, X, fun post h => yo_calc post hp hd' e1 e2 e3 h2 h3 hk h, (p + 1) % 32, o, 0, _, _, cw2, sw2, ob, _, ce, op, tg, nu, _, _, rfl, rfl, Nat.mod_lt _ (by decide), ho, hd, Or.inl rfl, st_C4 (st_Cr h2 st_C5), sm_Z_e (sm_Z_u (sm_Z_u sm_Z_5)), st_By B (by_calc h3 (B t h2) (B (nn % 4) (Nat.mod_lt _ (by decide)))), w⟩
theorem sp_load (F : sm_F p o d 0 cp hc cw sw rg ce op tg nu sp ht) (hd : d + 1 < 2 ^ 30) (e1 : op p = nI 2) (e2 : tg p = nI t) (e3 : nu p = nI nn) (h2 : t < 4) (h3 : nn < 256) (ew : sw p = nI wn) (W : sm_Wd 22 (2 * 1024 + t * 256 + nn) wn sn) : sm_Ends d (nI o, 0, nI (d % 48), cp, hc, cw, sw, ob) (nI p, nI o, 0, nI d, rg, ce, op, tg, nu, ob, sp, ht) := by
  obtain ⟨hp, ho, hd', _, C, _, B, S⟩ := F
  have hc16 : nn % 16 < 16 := Nat.mod_lt _ (by decide)
  obtain ⟨cwn, cv, csn, ec, ee, es, Wc⟩ := S.1 (nn % 16) hc16
  obtain ⟨cw2, sw2, w, X⟩ := st_c (oc := nI o) (hl := 0) (ob := ob) (d := d) (wv := nI cv) hp C (by decide) h2 h3 ew W hc16 ec Wc (sc_n (Or.inl rfl) h3)
    (fun post' h => by
      repeat (first | refine br_t (by decide) ?_ | refine br_f (by decide) ?_)
      exact h) (fun post' h => xf_reg post' hp h2 (by decide) h) (ws_cell (ws_step S hp (by decide) h2 h3 e1 e2 e3) hc16 (sm_Wv Wc) ee)
  refine ⟨_, _, X, fun post h => yo_load post hp hd' e1 e2 e3 h2 h3 h, (p + 1) % 32, o, 0, _, _, cw2, sw2, ob, upd rg t (nI cv), ce, op, tg, nu, _, _, rfl, by rw [ee], Nat.mod_lt _ (by decide), ho, hd, Or.inl rfl, st_C4 (st_Cr h2 st_C5), sm_Z_e (sm_Z_u (sm_Z_u sm_Z_5)), st_By B (by_n (sm_Wv Wc)), w⟩
theorem sp_fetch (F : sm_F p o d 0 cp hc cw sw rg ce op tg nu sp ht) (hd : d + 1 < 2 ^ 30) (e1 : op p = nI 12) (e2 : tg p = nI t) (e3 : nu p = nI nn) (h2 : t < 4) (h3 : nn < 256) (ew : sw p = nI wn) (W : sm_Wd 22 (12 * 1024 + t * 256 + nn) wn sn) : sm_Ends d (nI o, 0, nI (d % 48), cp, hc, cw, sw, ob) (nI p, nI o, 0, nI d, rg, ce, op, tg, nu, ob, sp, ht) := by
  obtain ⟨hp, ho, hd', _, C, _, B, S⟩ := F
  obtain ⟨s, hs, er⟩ := B (nn % 4) (Nat.mod_lt _ (by decide))
  have hc16 : s % 16 < 16 := Nat.mod_lt _ (by decide)
  obtain ⟨cwn, cv, csn, ec, ee, es, Wc⟩ := S.1 (s % 16) hc16
  obtain ⟨cw2, sw2, w, X⟩ := st_c (oc := nI o) (hl := 0) (ob := ob) (d := d) (wv := nI cv) hp C (by decide) h2 h3 ew W hc16 ec Wc (fun post' h => by
      rw [er]
      exact sc_s (Or.inl rfl) hs post' h)
    (fun post' h => by
      repeat (first | refine br_t (by decide) ?_ | refine br_f (by decide) ?_)
      exact h) (fun post' h => xf_reg post' hp h2 (by decide) h) (ws_cell (ws_step S hp (by decide) h2 h3 e1 e2 e3) hc16 (sm_Wv Wc) ee)
  refine ⟨_, _, X, fun post h => yo_fetch post hp hd' e1 e2 e3 h2 h3 hs er h, (p + 1) % 32, o, 0, _, _, cw2, sw2, ob, upd rg t (nI cv), ce, op, tg, nu, _, _, rfl, by rw [ee], Nat.mod_lt _ (by decide), ho, hd, Or.inl rfl, st_C4 (st_Cr h2 st_C5), sm_Z_e (sm_Z_u (sm_Z_u sm_Z_5)), st_By B (by_n (sm_Wv Wc)), w⟩
theorem sp_store (F : sm_F p o d 0 cp hc cw sw rg ce op tg nu sp ht) (hd : d + 1 < 2 ^ 30) (e1 : op p = nI 3) (e2 : tg p = nI t) (e3 : nu p = nI nn) (h2 : t < 4) (h3 : nn < 256) (ew : sw p = nI wn) (W : sm_Wd 22 (3 * 1024 + t * 256 + nn) wn sn) : sm_Ends d (nI o, 0, nI (d % 48), cp, hc, cw, sw, ob) (nI p, nI o, 0, nI d, rg, ce, op, tg, nu, ob, sp, ht) := by
  obtain ⟨hp, ho, hd', _, C, _, B, S⟩ := F
  obtain ⟨v, hv, ev⟩ := B t h2
  have hc16 : nn % 16 < 16 := Nat.mod_lt _ (by decide)
  obtain ⟨cwn, cv, csn, ec, ee, es, Wc⟩ := S.1 (nn % 16) hc16
  have Hw := ws_store (ws_cell (ws_step S hp (by decide) h2 h3 e1 e2 e3) hc16 (sm_Wv Wc) ee) hc16 hv
  rw [sm_uu (upd sp p 0)] at Hw
  obtain ⟨cw2, sw2, w, X⟩ := st_c (oc := nI o) (hl := 0) (ob := ob) (d := d) (wv := nI v) hp C (by decide) h2 h3 ew W hc16 ec Wc (sc_n (Or.inr rfl) h3)
    (fun post' h => by
      repeat (first | refine br_t (by decide) ?_ | refine br_f (by decide) ?_)
      rw [ev]
      exact h) (fun post' h => xf_store post' hp (Or.inl rfl) hc16 (by omega) h) Hw
  refine ⟨_, _, X, fun post h => yo_store post hp hd' e1 e2 e3 h2 h3 h, (p + 1) % 32, o, 0, _, _, cw2, sw2, ob, rg, upd ce (nn % 16) (nI v), op, tg, nu, _, _, rfl, by rw [ev], Nat.mod_lt _ (by decide), ho, hd, Or.inl rfl, st_C4 st_C5, sm_Z_e (sm_Z_u sm_Z_5), B, w⟩
theorem sp_keep (F : sm_F p o d 0 cp hc cw sw rg ce op tg nu sp ht) (hd : d + 1 < 2 ^ 30) (e1 : op p = nI 13) (e2 : tg p = nI t) (e3 : nu p = nI nn) (h2 : t < 4) (h3 : nn < 256) (ew : sw p = nI wn) (W : sm_Wd 22 (13 * 1024 + t * 256 + nn) wn sn) : sm_Ends d (nI o, 0, nI (d % 48), cp, hc, cw, sw, ob) (nI p, nI o, 0, nI d, rg, ce, op, tg, nu, ob, sp, ht) := by
  obtain ⟨hp, ho, hd', _, C, _, B, S⟩ := F
  obtain ⟨v, hv, ev⟩ := B t h2
  obtain ⟨s, hs, er⟩ := B (nn % 4) (Nat.mod_lt _ (by decide))
  have hc16 : s % 16 < 16 := Nat.mod_lt _ (by decide)
  obtain ⟨cwn, cv, csn, ec, ee, es, Wc⟩ := S.1 (s % 16) hc16
  have Hw := ws_store (ws_cell (ws_step S hp (by decide) h2 h3 e1 e2 e3) hc16 (sm_Wv Wc) ee) hc16 hv
  rw [sm_uu (upd sp p 0)] at Hw
  obtain ⟨cw2, sw2, w, X⟩ := st_c (oc := nI o) (hl := 0) (ob := ob) (d := d) (wv := nI v) hp C (by decide) h2 h3 ew W hc16 ec Wc (fun post' h => by
      rw [er]
      exact sc_s (Or.inr rfl) hs post' h)
    (fun post' h => by
      repeat (first | refine br_t (by decide) ?_ | refine br_f (by decide) ?_)
      rw [ev]
      exact h) (fun post' h => xf_store post' hp (Or.inr rfl) hc16 (by omega) h) Hw
  refine ⟨_, _, X, fun post h => yo_keep post hp hd' e1 e2 e3 h2 h3 hs er h, (p + 1) % 32, o, 0, _, _, cw2, sw2, ob, rg, upd ce (s % 16) (nI v), op, tg, nu, _, _, rfl, by rw [ev], Nat.mod_lt _ (by decide), ho, hd, Or.inl rfl, st_C4 st_C5, sm_Z_e (sm_Z_u sm_Z_5), B, w⟩
theorem sp_jump (F : sm_F p o d 0 cp hc cw sw rg ce op tg nu sp ht) (hd : d + 1 < 2 ^ 30) (e1 : op p = nI 9) (e2 : tg p = nI t) (e3 : nu p = nI nn) (h2 : t < 4) (h3 : nn < 256) (ew : sw p = nI wn) (W : sm_Wd 22 (9 * 1024 + t * 256 + nn) wn sn) : sm_Ends d (nI o, 0, nI (d % 48), cp, hc, cw, sw, ob) (nI p, nI o, 0, nI d, rg, ce, op, tg, nu, ob, sp, ht) := by
  obtain ⟨hp, ho, hd', _, C, _, B, S⟩ := F
  have ej : nI nn &&& 31 = nI (nn % 32) := pk_andN (by omega) 5 (by decide)
  obtain ⟨cw2, sw2, w, X⟩ := st_n (oc := nI o) (hl := 0) (ob := ob) (d := d) (wv := nI (nn % 32)) hp C (by decide) h2 h3 ew W (sc_none (by decide) (by decide))
    (fun post' h => by
      repeat (first | refine br_t (by decide) ?_ | refine br_f (by decide) ?_)
      rw [ej]
      exact h) (fun post' h => xf_jump post' hp (Or.inl rfl) h) (ws_step S hp (by decide) h2 h3 e1 e2 e3)
  exact ⟨_, _, X, fun post h => yo_jump post hp hd' e1 e2 e3 h2 h3 h, nn % 32, o, 0, _, _, cw2, sw2, ob, rg, ce, op, tg, nu, _, _, rfl, rfl, Nat.mod_lt _ (by decide), ho, hd, Or.inl rfl, st_C4 st_C5, sm_Z_e (sm_Z_u sm_Z_5), B, w⟩
theorem sp_zero (F : sm_F p o d 0 cp hc cw sw rg ce op tg nu sp ht) (hd : d + 1 < 2 ^ 30) (e1 : op p = nI 10) (e2 : tg p = nI t) (e3 : nu p = nI nn) (h2 : t < 4) (h3 : nn < 256) (ew : sw p = nI wn) (W : sm_Wd 22 (10 * 1024 + t * 256 + nn) wn sn) : sm_Ends d (nI o, 0, nI (d % 48), cp, hc, cw, sw, ob) (nI p, nI o, 0, nI d, rg, ce, op, tg, nu, ob, sp, ht) := by
  obtain ⟨hp, ho, hd', _, C, _, B, S⟩ := F
  have ej : nI nn &&& 31 = nI (nn % 32) := pk_andN (by omega) 5 (by decide)
  by_cases ez : rg t = 0
  · obtain ⟨cw2, sw2, w, X⟩ := st_n (oc := nI o) (hl := 0) (ob := ob) (d := d) (wv := nI (nn % 32)) hp C (by decide) h2 h3 ew W (sc_none (by decide) (by decide))
      (fun post' h => by
        repeat (first | refine br_t (by decide) ?_ | refine br_f (by decide) ?_)
        refine br_t ez ?_
        rw [ej]
        exact h) (fun post' h => xf_jump post' hp (Or.inr rfl) h) (ws_step S hp (by decide) h2 h3 e1 e2 e3)
    exact ⟨_, _, X, fun post h => yo_zero post hp hd' e1 e2 e3 h2 h3 ez h, nn % 32, o, 0, _, _, cw2, sw2, ob, rg, ce, op, tg, nu, _, _, rfl, rfl, Nat.mod_lt _ (by decide), ho, hd, Or.inl rfl, st_C4 st_C5, sm_Z_e (sm_Z_u sm_Z_5), B, w⟩
  · obtain ⟨cw2, sw2, w, X⟩ := st_n (oc := nI o) (hl := 0) (ob := ob) (d := d) (wv := nI ((p + 1) % 32)) hp C (by decide) h2 h3 ew W (sc_none (by decide) (by decide))
      (fun post' h => by
        repeat (first | refine br_t (by decide) ?_ | refine br_f (by decide) ?_)
        refine br_f ez ?_
        rw [xf_nx hp]
        exact h) (fun post' h => xf_jump post' hp (Or.inr rfl) h) (ws_step S hp (by decide) h2 h3 e1 e2 e3)
    exact ⟨_, _, X, fun post h => yo_nz post hp hd' e1 e2 e3 h2 h3 ez h, (p + 1) % 32, o, 0, _, _, cw2, sw2, ob, rg, ce, op, tg, nu, _, _, rfl, by rw [sm_ue rfl], Nat.mod_lt _ (by decide), ho, hd, Or.inl rfl, st_C4 st_C5, sm_Z_e (sm_Z_u sm_Z_5), B, w⟩
theorem sp_out (F : sm_F p o d 0 cp hc cw sw rg ce op tg nu sp ht) (hd : d + 1 < 2 ^ 30) (e1 : op p = nI 11) (e2 : tg p = nI t) (e3 : nu p = nI nn) (h2 : t < 4) (h3 : nn < 256) (ew : sw p = nI wn) (W : sm_Wd 22 (11 * 1024 + t * 256 + nn) wn sn) : sm_Ends d (nI o, 0, nI (d % 48), cp, hc, cw, sw, ob) (nI p, nI o, 0, nI d, rg, ce, op, tg, nu, ob, sp, ht) := by
  obtain ⟨hp, ho, hd', _, C, _, B, S⟩ := F
  by_cases ho2 : o < 16
  · obtain ⟨cw2, sw2, w, X⟩ := st_n (oc := nI o) (hl := 0) (ob := ob) (d := d) (wv := rg t) hp C (by decide) h2 h3 ew W (sc_none (by decide) (by decide))
      (fun post' h => by
        repeat (first | refine br_t (by decide) ?_ | refine br_f (by decide) ?_)
        exact h) (fun post' h => xf_out post' hp ho2 h) (ws_step S hp (by decide) h2 h3 e1 e2 e3)
    exact ⟨_, _, X, fun post h => yo_out post hp hd' e1 e2 e3 h2 h3 ho2 rfl h, (p + 1) % 32, o + 1, 0, _, _, cw2, sw2, _, rg, ce, op, tg, nu, _, _, rfl, rfl, Nat.mod_lt _ (by decide), by omega, hd, Or.inl rfl, st_C4 st_C5, sm_Z_e (sm_Z_u sm_Z_5), B, w⟩
  · obtain rfl : o = 16 := by omega
    obtain ⟨cw2, sw2, w, X⟩ := st_n (oc := nI 16) (hl := 0) (ob := ob) (d := d) (wv := rg t) hp C (by decide) h2 h3 ew W (sc_none (by decide) (by decide))
      (fun post' h => by
        repeat (first | refine br_t (by decide) ?_ | refine br_f (by decide) ?_)
        exact h) (fun post' h => xf_full post' hp h) (ws_step S hp (by decide) h2 h3 e1 e2 e3)
    exact ⟨_, _, X, fun post h => yo_full post hp hd' e1 e2 e3 h2 h3 rfl h, p, 16, 1, _, _, cw2, sw2, ob, rg, ce, op, tg, nu, _, _, rfl, rfl, hp, ho, hd, Or.inr rfl, st_C4 st_C5, sm_Z_e (sm_Z_u sm_Z_5), B, w⟩
theorem sp_step (F : sm_F p o d 0 cp hc cw sw rg ce op tg nu sp ht) (hd : d + 1 < 2 ^ 30) : sm_Ends d (nI o, 0, nI (d % 48), cp, hc, cw, sw, ob) (nI p, nI o, 0, nI d, rg, ce, op, tg, nu, ob, sp, ht) := by
  obtain ⟨on, t, nn, wn, sn, h1, h2, h3, e1, e2, e3, e4, e5, W⟩ := F.2.2.2.2.2.2.2.2 p F.1
  have hk : on = 0 ∨ (on = 1 ∨ on = 4 ∨ on = 5 ∨ on = 6 ∨ on = 7 ∨ on = 8) ∨ on = 2 ∨ on = 3 ∨ on = 9 ∨ on = 10 ∨ on = 11 ∨ on = 12 ∨ on = 13 := by omega
  rcases hk with rfl | hk | rfl | rfl | rfl | rfl | rfl | rfl | rfl
  · exact sp_stop F hd e1 e2 e3 h2 h3 e4 W
  · exact sp_calc F hd hk e1 e2 e3 h2 h3 e4 W
  · exact sp_load F hd e1 e2 e3 h2 h3 e4 W
  · exact sp_store F hd e1 e2 e3 h2 h3 e4 W
  · exact sp_jump F hd e1 e2 e3 h2 h3 e4 W
  · exact sp_zero F hd e1 e2 e3 h2 h3 e4 W
  · exact sp_out F hd e1 e2 e3 h2 h3 e4 W
  · exact sp_fetch F hd e1 e2 e3 h2 h3 e4 W
  · exact sp_keep F hd e1 e2 e3 h2 h3 e4 W
end STEPS
end
section
/-! 10: the relation at a turn; new, set, setData, run, reset -/
def i_Rel (k : Nat) (u : SX) (v : SY) : Prop := ∃ d, d ≤ 20 * k ∧ sm_R d u v
theorem i_up {k : Nat} {u : SX} {v : SY} (h : i_Rel k u v) : i_Rel (k + 5) u v := by
  obtain ⟨d, hd, R⟩ := h
  exact ⟨d, by omega, R⟩
theorem ir_0 {k : Nat} {u : SX} {v : SY} {d : Nat} (hd : d ≤ 20 * k) (R : sm_R d u v) : i_Rel (k + 5) u v := ⟨d, by omega, R⟩
theorem v0_13 : sm_Wd 13 0 0 0 := ⟨Or.inl ⟨rfl, by decide⟩, Or.inl ⟨rfl, by decide +kernel⟩⟩
theorem v0_22 : sm_Wd 22 (0 * 1024 + 0 * 256 + 0) 0 0 := ⟨Or.inr ⟨rfl, by decide⟩, Or.inl ⟨rfl, by decide +kernel⟩⟩
theorem v0_val (s : Nat) : sm_val (fun _ => 0) (nI 0) s = 0 := by
  unfold sm_val
  split
  · rfl
  split
  · rfl
  · rfl
theorem i_vc0 : wpX_init (fun u => wpY_init (fun v => i_Rel 0 u v)) := by
  refine ⟨0, by omega, 0, 0, 0, fun _ => 0, fun _ => 0, fun _ => 0, fun _ => 0, fun _ => 0, fun _ => 0, fun _ => 0, fun _ => 0, fun _ => 0, fun _ => 0, fun _ => 0, fun _ => 0, rfl, rfl, by decide, by decide, by decide, Or.inl rfl, ?_, fun _ _ => rfl, fun _ _ => ⟨0, by decide, rfl⟩, fun _ _ => ⟨0, 0, 0, rfl, rfl, rfl, v0_13⟩, fun _ _ => ⟨0, 0, 0, 0, 0, by decide, by decide, by decide, rfl, rfl, rfl, rfl, rfl, v0_22⟩⟩
  intro s _ j _ _
  exact (v0_val s).symm
/-! ranges -/
section RANGE
theorem xi_no {post : Int32 → Prop} {x a b : Int32} (h : x < a ∨ b < x) (hp : post 0) : wpX_isWithin post x a b :=
  ⟨fun _ => hp, fun z => ⟨fun _ => hp, fun w => absurd h (fun q => q.elim z w)⟩⟩
theorem xi_yes {post : Int32 → Prop} {x a b : Int32} (h : ¬ (x < a ∨ b < x)) (hp : post 1) : wpX_isWithin post x a b :=
  ⟨fun z => absurd (Or.inl z) h, fun _ => ⟨fun w => absurd (Or.inr w) h, fun _ => hp⟩⟩
theorem y_no {c1 c2 A B : Prop} (h : c1 ∨ c2) (a : A) : (c1 → A) ∧ (¬ c1 → ((c2 → A) ∧ (¬ c2 → B))) :=
  ⟨fun _ => a, fun z => ⟨fun _ => a, fun w => absurd h (fun q => q.elim z w)⟩⟩
theorem y_yes {c1 c2 A A' B : Prop} (h : ¬ (c1 ∨ c2)) (b : B) : (c1 → A) ∧ (¬ c1 → ((c2 → A') ∧ (¬ c2 → B))) :=
  ⟨fun z => absurd (Or.inl z) h, fun _ => ⟨fun w => absurd (Or.inr w) h, fun _ => b⟩⟩
theorem in_j {x : Int32} {n : Nat} (hn : n < 2 ^ 31) (h : ¬ (x < 0 ∨ nI n < x)) : ∃ j, j ≤ n ∧ x = nI j := by
  obtain ⟨j, hj, rfl⟩ := nI_of (x := x) (fun z => h (Or.inl z))
  refine ⟨j, ?_, rfl⟩
  have q : ¬ nI n < nI j := fun z => h (Or.inr z)
  rw [nI_ltI hn hj] at q
  omega
theorem in_j1 {x : Int32} {n : Nat} (hn : n < 2 ^ 31) (h : ¬ (x < 1 ∨ nI n < x)) : ∃ j, 1 ≤ j ∧ j ≤ n ∧ x = nI j := by
  have h0 : ¬ x < 0 := fun z => h (Or.inl (Int32.lt_trans z (by decide)))
  obtain ⟨j, hj, rfl⟩ := in_j hn (fun z => z.elim h0 (fun w => h (Or.inr w)))
  refine ⟨j, ?_, hj, rfl⟩
  have q : ¬ nI j < nI 1 := fun z => h (Or.inl z)
  rw [nI_ltI (by omega) (by decide)] at q
  omega
end RANGE
section SETS
variable {oc hl tn : Int32} {cp hc cw sw ob : Nat → Int32} {a sh hl2 dn : Int32} {rg ce op tg nu pp sp ht : Nat → Int32}
def rs_bad (v1 v2 v3 v4 : Int32) : Prop := (v1 < 0 ∨ 31 < v1) ∨ (v2 < 0 ∨ 13 < v2) ∨ (v3 < 0 ∨ 3 < v3) ∨ (v4 < 0 ∨ 255 < v4)
theorem xs_set0 (post : Int32 → SX → Prop) {v1 v2 v3 v4 : Int32} (bad : rs_bad v1 v2 v3 v4) (h : post 0 (oc, hl, tn, cp, hc, cw, sw, ob)) : wpX_set post (oc, hl, tn, cp, hc, cw, sw, ob) v1 v2 v3 v4 := by
  unfold wpX_set
  by_cases b1 : v1 < 0 ∨ 31 < v1
  · exact xi_no b1 (br_t rfl h)
  refine xi_yes b1 (br_f xw_1 ?_)
  by_cases b2 : v2 < 0 ∨ 13 < v2
  · exact xi_no b2 (br_t rfl h)
  refine xi_yes b2 (br_f xw_1 ?_)
  by_cases b3 : v3 < 0 ∨ 3 < v3
  · exact xi_no b3 (br_t rfl h)
  refine xi_yes b3 (br_f xw_1 ?_)
  have b4 : v4 < 0 ∨ 255 < v4 := by
    rcases bad with z | z | z | z
    · exact absurd z b1
    · exact absurd z b2
    · exact absurd z b3
    · exact z
  exact xi_no b4 (br_t rfl h)
theorem ys_set0 (post : Int32 → SY → Prop) {v1 v2 v3 v4 : Int32} (bad : rs_bad v1 v2 v3 v4) (h : post 0 (a, sh, hl2, dn, rg, ce, op, tg, nu, pp, sp, ht)) : wpY_set post (a, sh, hl2, dn, rg, ce, op, tg, nu, pp, sp, ht) v1 v2 v3 v4 := by
  unfold wpY_set
  by_cases b1 : v1 < 0 ∨ 31 < v1
  · exact y_no b1 (br_t rfl h)
  refine y_yes b1 (br_f xw_1 ?_)
  by_cases b2 : v2 < 0 ∨ 13 < v2
  · exact y_no b2 h
  refine y_yes b2 ?_
  by_cases b3 : v3 < 0 ∨ 3 < v3
  · exact y_no b3 (br_t rfl h)
  refine y_yes b3 (br_f xw_1 ?_)
  have b4 : v4 < 0 ∨ 255 < v4 := by
    rcases bad with z | z | z | z
    · exact absurd z b1
    · exact absurd z b2
    · exact absurd z b3
    · exact z
  exact y_no b4 (br_t rfl h)
theorem rs_or {on t nn : Nat} (h2 : t < 4) (h3 : nn < 256) : (on * 1024 ||| t * 256) ||| nn = on * 1024 + t * 256 + nn := by
  have e1 := Nat.two_pow_add_eq_or_of_lt (i := 10) (b := t * 256) (by omega) on
  have e2 := Nat.two_pow_add_eq_or_of_lt (i := 8) (b := nn) (by omega) (on * 4 + t)
  rw [show on * 1024 = 2 ^ 10 * on by omega, ← e1, show 2 ^ 10 * on + t * 256 = 2 ^ 8 * (on * 4 + t) by omega, ← e2]
theorem xs_set (post : Int32 → SX → Prop) {q on t nn : Nat} (hq : q ≤ 31) (h1 : on ≤ 13) (h2 : t ≤ 3) (h3 : nn ≤ 255) (b1 : ¬ (nI q < 0 ∨ 31 < nI q)) (b2 : ¬ (nI on < 0 ∨ 13 < nI on)) (b3 : ¬ (nI t < 0 ∨ 3 < nI t)) (b4 : ¬ (nI nn < 0 ∨ 255 < nI nn)) (h : post 1 (oc, hl, tn, cp, hc, cw, upd sw q (nI (sm_en 22 (on * 1024 + t * 256 + nn))), ob)) : wpX_set post (oc, hl, tn, cp, hc, cw, sw, ob) (nI q) (nI on) (nI t) (nI nn) := by
  have e : nI on <<< ((10 : Int32) &&& 31) ||| nI t <<< ((8 : Int32) &&& 31) ||| nI nn = nI (on * 1024 + t * 256 + nn) := by
    rw [pk_shlN _ 10 (by decide) (by omega), pk_shlN _ 8 (by decide) (by omega), nx_or, nx_or]
    exact congrArg nI (rs_or (by omega) (by omega))
  unfold wpX_set
  refine xi_yes b1 (br_f xw_1 (xi_yes b2 (br_f xw_1 (xi_yes b3 (br_f xw_1 (xi_yes b4 (br_f xw_1 ?_)))))))
  rw [e]
  exact xw_encoded (b := 22) _ (Or.inr rfl) (by omega) ⟨vp_in_nI (by omega) (by decide), nm_r (by rw [nI_clamp (by omega)]) h⟩
theorem ys_set (post : Int32 → SY → Prop) {q on t nn : Nat} (hq : q ≤ 31) (b1 : ¬ (nI q < 0 ∨ 31 < nI q)) (b2 : ¬ (nI on < 0 ∨ 13 < nI on)) (b3 : ¬ (nI t < 0 ∨ 3 < nI t)) (b4 : ¬ (nI nn < 0 ∨ 255 < nI nn)) (h : post 1 (a, sh, hl2, dn, rg, ce, upd op q (nI on), upd tg q (nI t), upd nu q (nI nn), pp, upd sp q 0, ht)) : wpY_set post (a, sh, hl2, dn, rg, ce, op, tg, nu, pp, sp, ht) (nI q) (nI on) (nI t) (nI nn) := by
  have c (f : Nat → Int32) (x : Int32) : upd f (nI q).toNatClampNeg x = upd f q x := by rw [nI_clamp (by omega)]
  have i : vp_in (nI q) 32 := vp_in_nI (by omega) (by decide)
  unfold wpY_set
  refine y_yes b1 (br_f xw_1 (y_yes b2 (y_yes b3 (br_f xw_1 (y_yes b4 (br_f xw_1 ⟨i, nm_r (c _ _) ⟨i, nm_r (c _ _) ⟨i, nm_r (c _ _) ⟨vp_in_nI (by omega) (by decide), nm_r (e' := upd sp q 0) ?_ h⟩⟩⟩⟩))))))
  rw [c, y_b0]
def rd_bad (v1 v2 : Int32) : Prop := (v1 < 0 ∨ 15 < v1) ∨ (v2 < 0 ∨ 255 < v2)
theorem xs_dat0 (post : Int32 → SX → Prop) {v1 v2 : Int32} (bad : rd_bad v1 v2) (h : post 0 (oc, hl, tn, cp, hc, cw, sw, ob)) : wpX_setData post (oc, hl, tn, cp, hc, cw, sw, ob) v1 v2 := by
  unfold wpX_setData
  by_cases b1 : v1 < 0 ∨ 15 < v1
  · exact xi_no b1 (br_t rfl h)
  refine xi_yes b1 (br_f xw_1 ?_)
  exact xi_no (bad.elim (fun z => absurd z b1) id) (br_t rfl h)
theorem ys_dat0 (post : Int32 → SY → Prop) {v1 v2 : Int32} (bad : rd_bad v1 v2) (h : post 0 (a, sh, hl2, dn, rg, ce, op, tg, nu, pp, sp, ht)) : wpY_setData post (a, sh, hl2, dn, rg, ce, op, tg, nu, pp, sp, ht) v1 v2 := by
  unfold wpY_setData
  by_cases b1 : v1 < 0 ∨ 15 < v1
  · exact y_no b1 (br_t rfl h)
  refine y_yes b1 (br_f xw_1 ?_)
  exact y_no (bad.elim (fun z => absurd z b1) id) (br_t rfl h)
theorem xs_dat (post : Int32 → SX → Prop) {c v : Nat} (hc16 : c ≤ 15) (hv : v ≤ 255) (b1 : ¬ (nI c < 0 ∨ 15 < nI c)) (b2 : ¬ (nI v < 0 ∨ 255 < nI v)) (h : post 1 (oc, hl, tn, cp, hc, upd cw c (nI (sm_en 13 v)), sw, ob)) : wpX_setData post (oc, hl, tn, cp, hc, cw, sw, ob) (nI c) (nI v) := by
  unfold wpX_setData
  refine xi_yes b1 (br_f xw_1 (xi_yes b2 (br_f xw_1 ?_)))
  exact xw_encoded (b := 13) _ (Or.inl rfl) (by omega) ⟨vp_in_nI (by omega) (by decide), nm_r (by rw [nI_clamp (by omega)]) h⟩
theorem ys_dat (post : Int32 → SY → Prop) {c v : Nat} (hc16 : c ≤ 15) (b1 : ¬ (nI c < 0 ∨ 15 < nI c)) (b2 : ¬ (nI v < 0 ∨ 255 < nI v)) (h : post 1 (a, sh, hl2, dn, rg, upd ce c (nI v), op, tg, nu, pp, upd sp (32 + c) 0, ht)) : wpY_setData post (a, sh, hl2, dn, rg, ce, op, tg, nu, pp, sp, ht) (nI c) (nI v) := by
  have e : 32 + nI c = nI (32 + c) := nI_add 32 c
  unfold wpY_setData
  refine y_yes b1 (br_f xw_1 (y_yes b2 (br_f xw_1 ⟨vp_in_nI (by omega) (by decide), nm_r (by rw [nI_clamp (by omega)]) ⟨?_, nm_r (e' := upd sp (32 + c) 0) ?_ h⟩⟩)))
  · rw [e]
    exact vp_in_nI (by omega) (by decide)
  · rw [e, nI_clamp (by omega), y_b0]
end SETS
theorem i_vc_set {k : Nat} {u : SX} {v : SY} (I : i_Rel k u v) (hk : k + 5 ≤ 2560) (v1 : Int32) (v2 : Int32) (v3 : Int32) (v4 : Int32) : wpX_set (fun r u' => wpY_set (fun r' v' => r' = r ∧ i_Rel (k + 5) u' v') v v1 v2 v3 v4) u v1 v2 v3 v4 := by
  obtain ⟨d, hd, p, o, hl, cp, hc, cw, sw, ob, rg, ce, op, tg, nu, sp, ht, rfl, rfl, F⟩ := I
  by_cases bad : rs_bad v1 v2 v3 v4
  · exact xs_set0 _ bad (ys_set0 _ bad ⟨rfl, ir_0 hd ⟨p, o, hl, cp, hc, cw, sw, ob, rg, ce, op, tg, nu, sp, ht, rfl, rfl, F⟩⟩)
  · have b1 : ¬ (v1 < 0 ∨ 31 < v1) := fun z => bad (Or.inl z)
    have b2 : ¬ (v2 < 0 ∨ 13 < v2) := fun z => bad (Or.inr (Or.inl z))
    have b3 : ¬ (v3 < 0 ∨ 3 < v3) := fun z => bad (Or.inr (Or.inr (Or.inl z)))
    have b4 : ¬ (v4 < 0 ∨ 255 < v4) := fun z => bad (Or.inr (Or.inr (Or.inr z)))
    obtain ⟨q, hq, rfl⟩ := in_j (n := 31) (by decide) b1
    obtain ⟨on, h1, rfl⟩ := in_j (n := 13) (by decide) b2
    obtain ⟨t, h2, rfl⟩ := in_j (n := 3) (by decide) b3
    obtain ⟨nn, h3, rfl⟩ := in_j (n := 255) (by decide) b4
    obtain ⟨f1, f2, f3, f4, f5, f6, f7, S⟩ := F
    exact xs_set _ hq h1 h2 h3 b1 b2 b3 b4 (ys_set _ hq b1 b2 b3 b4 ⟨rfl, ir_0 hd ⟨p, o, hl, cp, hc, cw, _, ob, rg, ce, _, _, _, _, ht, rfl, rfl, f1, f2, f3, f4, f5, f6, f7, ws_set S (by omega) (by omega) (by omega) (by omega)⟩⟩)
theorem i_vc_setData {k : Nat} {u : SX} {v : SY} (I : i_Rel k u v) (hk : k + 5 ≤ 2560) (v1 : Int32) (v2 : Int32) : wpX_setData (fun r u' => wpY_setData (fun r' v' => r' = r ∧ i_Rel (k + 5) u' v') v v1 v2) u v1 v2 := by
  obtain ⟨d, hd, p, o, hl, cp, hc, cw, sw, ob, rg, ce, op, tg, nu, sp, ht, rfl, rfl, F⟩ := I
  by_cases bad : rd_bad v1 v2
  · exact xs_dat0 _ bad (ys_dat0 _ bad ⟨rfl, ir_0 hd ⟨p, o, hl, cp, hc, cw, sw, ob, rg, ce, op, tg, nu, sp, ht, rfl, rfl, F⟩⟩)
  · have b1 : ¬ (v1 < 0 ∨ 15 < v1) := fun z => bad (Or.inl z)
    have b2 : ¬ (v2 < 0 ∨ 255 < v2) := fun z => bad (Or.inr z)
    obtain ⟨c, h1, rfl⟩ := in_j (n := 15) (by decide) b1
    obtain ⟨x, h2, rfl⟩ := in_j (n := 255) (by decide) b2
    obtain ⟨f1, f2, f3, f4, f5, f6, f7, S⟩ := F
    exact xs_dat _ h1 h2 b1 b2 (ys_dat _ h1 b1 b2 ⟨rfl, ir_0 hd ⟨p, o, hl, cp, hc, _, sw, ob, rg, _, op, tg, nu, _, ht, rfl, rfl, f1, f2, f3, f4, f5, f6, f7, ws_store S (by omega) (by omega)⟩⟩)
end
section
/-! 11: run and reset -/
section RUN
theorem rn_loop (n : Nat) (hn : n ≤ 100) : ∀ m c d (u : SX) (v : SY), c + m = n → sm_R d u v → d + m < 2 ^ 30 → ∃ (c' d' : Nat) (u' : SX) (v' : SY), d' ≤ d + m ∧ sm_R d' u' v' ∧
    (∀ (post : Int32 → SX → Prop) (f : Nat), m < f → post (nI c') u' → wX_run_14 post (nI n) f (nI c) u.1 u.2.1 u.2.2.1 u.2.2.2.1 u.2.2.2.2.1 u.2.2.2.2.2.1 u.2.2.2.2.2.2.1 u.2.2.2.2.2.2.2) ∧
    (∀ (post : Int32 → SY → Prop) (f : Nat), m < f → post (nI c') v' → wY_run_14 post (nI n) f (nI c) v.1 v.2.1 v.2.2.1 v.2.2.2.1 v.2.2.2.2.1 v.2.2.2.2.2.1 v.2.2.2.2.2.2.1 v.2.2.2.2.2.2.2.1 v.2.2.2.2.2.2.2.2.1 v.2.2.2.2.2.2.2.2.2.1 v.2.2.2.2.2.2.2.2.2.2.1 v.2.2.2.2.2.2.2.2.2.2.2) := by
  intro m
  induction m with
  | zero =>
    intro c d u v e R hd
    obtain rfl : c = n := by omega
    obtain ⟨p, o, hl, cp, hc, cw, sw, ob, rg, ce, op, tg, nu, sp, ht, rfl, rfl, F⟩ := R
    refine ⟨c, d, _, _, by omega, ⟨p, o, hl, cp, hc, cw, sw, ob, rg, ce, op, tg, nu, sp, ht, rfl, rfl, F⟩, fun post f hf h => ?_, fun post f hf h => ?_⟩
    · obtain ⟨g, rfl⟩ : ∃ g, f = g + 1 := ⟨f - 1, by omega⟩
      exact br_t (nI_le (Nat.le_refl _) (by omega)) h
    · obtain ⟨g, rfl⟩ : ∃ g, f = g + 1 := ⟨f - 1, by omega⟩
      exact br_t (nI_le (Nat.le_refl _) (by omega)) h
  | succ m ih =>
    intro c d u v e R hd
    obtain ⟨p, o, hl, cp, hc, cw, sw, ob, rg, ce, op, tg, nu, sp, ht, rfl, rfl, F⟩ := R
    have F' := F
    obtain ⟨f1, f2, f3, f4, f5, f6, f7, S⟩ := F'
    rcases f4 with rfl | rfl
    · obtain ⟨u1, v1, X, Y, R1⟩ := sp_step (ob := ob) F (by omega)
      obtain ⟨c', d', u', v', hd', R', X', Y'⟩ := ih (c + 1) (d + 1) u1 v1 (by omega) R1 (by omega)
      obtain ⟨p1, o1, hl1, cp1, hc1, cw1, sw1, ob1, rg1, ce1, op1, tg1, nu1, sp1, ht1, rfl, rfl, F1⟩ := R1
      refine ⟨c', d', u', v', by omega, R', fun post f hf h => ?_, fun post f hf h => ?_⟩
      · obtain ⟨g, rfl⟩ : ∃ g, f = g + 1 := ⟨f - 1, by omega⟩
        refine br_f (nI_ge (by omega) (by omega)) (br_t rfl (X _ ?_))
        exact nm_r (nI_1 c) (X' post g (by omega) h)
      · obtain ⟨g, rfl⟩ : ∃ g, f = g + 1 := ⟨f - 1, by omega⟩
        refine br_f (nI_ge (by omega) (by omega)) (br_t rfl (Y _ ?_))
        exact nm_r (nI_1 c) (Y' post g (by omega) h)
    · refine ⟨c, d, _, _, by omega, ⟨p, o, 1, cp, hc, cw, sw, ob, rg, ce, op, tg, nu, sp, ht, rfl, rfl, F⟩, fun post f hf h => ?_, fun post f hf h => ?_⟩
      · obtain ⟨g, rfl⟩ : ∃ g, f = g + 1 := ⟨f - 1, by omega⟩
        exact br_f (nI_ge (by omega) (by omega)) (br_f xw_1 h)
      · obtain ⟨g, rfl⟩ : ∃ g, f = g + 1 := ⟨f - 1, by omega⟩
        exact br_f (nI_ge (by omega) (by omega)) (br_f xw_1 h)
end RUN
theorem i_vc_run {k : Nat} {u : SX} {v : SY} (I : i_Rel k u v) (hk : k + 5 ≤ 2560) (v1 : Int32) : wpX_run (fun r u' => wpY_run (fun r' v' => r' = r ∧ i_Rel (k + 5) u' v') v v1) u v1 := by
  obtain ⟨d, hd, R⟩ := I
  have R0 := R
  obtain ⟨p, o, hl, cp, hc, cw, sw, ob, rg, ce, op, tg, nu, sp, ht, rfl, rfl, F⟩ := R0
  unfold wpX_run
  by_cases b : v1 < 0 ∨ 100 < v1
  · refine xi_no b (br_t rfl ?_)
    by_cases b0 : v1 < 0
    · exact br_t b0 ⟨rfl, ir_0 hd R⟩
    · have b1 : ¬ v1 ≤ 100 := Int32.not_le.mpr (b.resolve_left b0)
      exact br_f b0 (br_f b1 ⟨rfl, ir_0 hd R⟩)
  · have b0 : ¬ v1 < 0 := fun z => b (Or.inl z)
    have b1 : v1 ≤ 100 := Int32.not_lt.mp (fun z => b (Or.inr z))
    obtain ⟨n, hn, rfl⟩ := in_j (n := 100) (by decide) b
    obtain ⟨c', d', u', v', hd', R', X, Y⟩ := rn_loop n hn n 0 d _ _ (by omega) R (by omega)
    refine xi_yes b (br_f xw_1 ⟨n + 1, X _ (n + 1) (by omega) ?_⟩)
    exact br_f b0 (br_t b1 ⟨n + 1, Y _ (n + 1) (by omega) ⟨rfl, d', by omega, R'⟩⟩)
section RESET
variable {oc hl tn : Int32} {cp hc cw sw ob : Nat → Int32} {a sh hl2 dn : Int32} {rg ce op tg nu pp sp ht : Nat → Int32}
def rz_w (i : Nat) (f : Nat → Int32) : Nat → Int32 := fun j => if j / 3 < i then 0 else f j
theorem rz_ws (i : Nat) (f : Nat → Int32) : sm_w3 (rz_w i f) i 0 = rz_w (i + 1) f := xv_hp i (fun _ => 0) f
theorem rz_w0 (f : Nat → Int32) : rz_w 0 f = f := xv_hp0 (fun _ => 0) f
theorem xz_L (post : SX → Prop) (h : post (0, 0, tn, rz_w 6 cp, sm_hc 6 hc, cw, sw, ob)) : ∀ k i n, i + k = 6 → k < n → wX_reset_2 post n (nI i) oc hl tn (rz_w i cp) (sm_hc i hc) cw sw ob := by
  intro k
  induction k with
  | zero =>
    intro i n e hn
    obtain ⟨m, rfl⟩ : ∃ m, n = m + 1 := ⟨n - 1, by omega⟩
    obtain rfl : i = 6 := by omega
    exact br_t (by decide) h
  | succ k ih =>
    intro i n e hn
    obtain ⟨m, rfl⟩ : ∃ m, n = m + 1 := ⟨n - 1, by omega⟩
    refine br_f (nI_ge (b := 6) (by omega) (by decide)) (xv_write _ (by omega) _ ?_)
    rw [rz_ws, xv_hc]
    exact nm_r (nI_1 i) (ih (i + 1) m (by omega) (by omega))
theorem xz_reset (post : SX → Prop) (h : post (0, 0, tn, rz_w 6 cp, sm_hc 6 hc, cw, sw, ob)) : wpX_reset post (oc, hl, tn, cp, hc, cw, sw, ob) := by
  have i := xz_L (oc := oc) (hl := hl) post h 6 0 7 (by omega) (by omega)
  rw [rz_w0, xv_hc0] at i
  exact ⟨7, i⟩
theorem yz_L (post : SY → Prop) (h : post (0, 0, 0, dn, sm_hc 4 rg, ce, op, tg, nu, pp, sp, sm_hc 6 ht)) : ∀ k i n, i + k = 4 → k < n → wY_reset_2 post a sh hl2 dn n (nI i) (sm_hc i rg) ce op tg nu pp sp ht := by
  intro k
  induction k with
  | zero =>
    intro i n e hn
    obtain ⟨m, rfl⟩ : ∃ m, n = m + 1 := ⟨n - 1, by omega⟩
    obtain rfl : i = 4 := by omega
    exact br_t (by decide) (yf_forget _ h)
  | succ k ih =>
    intro i n e hn
    obtain ⟨m, rfl⟩ : ∃ m, n = m + 1 := ⟨n - 1, by omega⟩
    refine br_f (nI_ge (b := 4) (by omega) (by decide)) ⟨vp_in_nI (by omega) (by decide), nm_r ?_ (nm_r (nI_1 i) (ih (i + 1) m (by omega) (by omega)))⟩
    rw [nI_clamp (by omega), xv_hc]
theorem yz_reset (post : SY → Prop) (h : post (0, 0, 0, dn, sm_hc 4 rg, ce, op, tg, nu, pp, sp, sm_hc 6 ht)) : wpY_reset post (a, sh, hl2, dn, rg, ce, op, tg, nu, pp, sp, ht) := by
  have i := yz_L (a := a) (sh := sh) (hl2 := hl2) post h 4 0 5 (by omega) (by omega)
  rw [xv_hc0] at i
  exact ⟨5, i⟩
theorem rz_val {s : Nat} : sm_val (sm_hc 4 rg) (nI 0) s = 0 := by
  unfold sm_val
  split
  · exact if_pos (by assumption)
  split
  · rfl
  · rfl
end RESET
theorem i_vc_reset {k : Nat} {u : SX} {v : SY} (I : i_Rel k u v) (hk : k + 5 ≤ 2560) : wpX_reset (fun u' => wpY_reset (fun v' => i_Rel (k + 5) u' v') v) u := by
  obtain ⟨d, hd, p, o, hl, cp, hc, cw, sw, ob, rg, ce, op, tg, nu, sp, ht, rfl, rfl, f1, f2, f3, f4, f5, f6, f7, S⟩ := I
  refine xz_reset _ (yz_reset _ (ir_0 hd ⟨0, 0, 0, _, _, cw, sw, ob, _, ce, op, tg, nu, sp, _, rfl, rfl, by decide, by decide, f3, Or.inl rfl, ?_, sm_Z_e sm_Z_h, ?_, S⟩))
  · intro s hs j hj _
    rw [rz_val]
    exact if_pos (by omega)
  · intro r hr
    exact ⟨0, by decide, if_pos hr⟩
end
section
/-! 12: hits -/
section HITS
variable {cp hc ht val : Nat → Int32}
theorem hs_CP (C : sm_CP cp hc val) {s c : Nat} (hs : s < 6) (hc3 : c < 3) (x : Int32) (z : hc s = 0 ∨ hc s = nI (c + 1)) : sm_CP (upd cp (s * 3 + c) x) (upd hc s (nI (c + 1))) val := by
  intro t ht j hj h
  by_cases e : t = s
  · subst e
    rw [pk_us] at h
    have hjc : j ≠ c := fun q => h (by rw [q])
    rw [pk_un (by omega)]
    refine C t ht j hj ?_
    rcases z with z | z
    · rw [z, ← nI_0]
      exact fun q => absurd ((nI_eq (by omega) (by omega)).mp q) (by omega)
    · rw [z]
      exact fun q => hjc (by have := (nI_eq (by omega) (by omega)).mp q; omega)
  · rw [pk_un e] at h
    rw [pk_un (by omega)]
    exact C t ht j hj h
theorem hs_both (C : sm_CP cp hc val) (E : ∀ s, s < 6 → hc s = ht s) {s : Nat} (hs : s < 6) (v2 v3 : Int32) (mg : Nat) (f : Int32) (hf : (¬ (v3 < 1 ∨ nI mg < v3) ∧ f = 1) ∨ ((v3 < 1 ∨ nI mg < v3) ∧ f = 0)) : ∃ (r : Int32) (cp' hc' ht' : Nat → Int32), (r = 0 ∨ r = 1) ∧ sm_CP cp' hc' val ∧ (∀ t, t < 6 → hc' t = ht' t) ∧
    (∀ (post : Int32 → SX → Prop) (oc hl tn : Int32) (cw sw ob : Nat → Int32), post r (oc, hl, tn, cp', hc', cw, sw, ob) → wpX_hitSlot post (oc, hl, tn, cp, hc, cw, sw, ob) (nI s) v2 v3 (nI mg)) ∧
    (∀ (post : Int32 → SY → Prop) (a sh hl dn : Int32) (rg ce op tg nu pp sp : Nat → Int32), post r (a, sh, hl, dn, rg, ce, op, tg, nu, pp, sp, ht') → wpY_hit post (a, sh, hl, dn, rg, ce, op, tg, nu, pp, sp, ht) (nI s) v2 f) := by
  have hin : vp_in (nI s) 6 := vp_in_nI hs (by decide)
  have hcs : hc (nI s).toNatClampNeg = hc s := by rw [nI_clamp (by omega)]
  have hts : ht (nI s).toNatClampNeg = hc s := by rw [nI_clamp (by omega), E s hs]
  rcases hf with ⟨bm, rfl⟩ | ⟨bm, rfl⟩
  · by_cases bc : v2 < 0 ∨ 2 < v2
    · refine ⟨0, cp, hc, ht, Or.inl rfl, C, E, fun post oc hl tn cw sw ob h => ?_, fun post a sh hl dn rg ce op tg nu pp sp h => ?_⟩
      · unfold wpX_hitSlot
        exact xi_no bc (br_t rfl h)
      · exact br_f xw_1 (y_no bc h)
    · obtain ⟨c, hc2, rfl⟩ := in_j (n := 2) (by decide) bc
      have ei : nI s * 3 + nI c = nI (s * 3 + c) := by
        rw [show nI s * 3 = nI (s * 3) from pk_mul s 3, nI_add]
      have ii : vp_in (nI s * 3 + nI c) 18 := by rw [ei]; exact vp_in_nI (by omega) (by decide)
      have ecp : upd cp (nI s * 3 + nI c).toNatClampNeg (cp (nI s * 3 + nI c).toNatClampNeg ^^^ v3) = upd cp (s * 3 + c) (cp (s * 3 + c) ^^^ v3) := by rw [ei, nI_clamp (by omega)]
      have ehc : upd hc (nI s).toNatClampNeg (nI c + 1) = upd hc s (nI (c + 1)) := by rw [nI_clamp (by omega), nI_1]
      have eht : upd ht (nI s).toNatClampNeg (nI c + 1) = upd ht s (nI (c + 1)) := by rw [nI_clamp (by omega), nI_1]
      by_cases z : hc s = 0 ∨ hc s = nI (c + 1)
      · refine ⟨1, _, _, upd ht s (nI (c + 1)), Or.inr rfl, hs_CP C hs (by omega) (cp (s * 3 + c) ^^^ v3) z, ?_, fun post oc hl tn cw sw ob h => ?_, fun post a sh hl dn rg ce op tg nu pp sp h => ?_⟩
        · intro t ht6
          by_cases q : t = s
          · rw [q, pk_us, pk_us]
          · rw [pk_un q, pk_un q]
            exact E t ht6
        · have fin : wX_hitSlot_44 post (nI s) (nI c) v3 oc hl tn cp hc cw sw ob := ⟨ii, ii, nm_r ecp ⟨hin, nm_r ehc h⟩⟩
          unfold wpX_hitSlot
          refine xi_yes bc (br_f xw_1 (xi_yes bm (br_f xw_1 ⟨hin, ?_⟩)))
          rw [hcs]
          by_cases z0 : hc s = 0
          · exact br_t z0 fin
          · exact br_f z0 ⟨hin, br_t ((z.resolve_left z0).trans (nI_1 c).symm) fin⟩
        · have fin : wY_hit_36 post (nI s) (nI c) a sh hl dn rg ce op tg nu pp sp ht := ⟨hin, nm_r eht h⟩
          refine br_f xw_1 (y_yes bc ⟨hin, ?_⟩)
          rw [hts]
          by_cases z0 : hc s = 0
          · exact br_t z0 fin
          · exact br_f z0 ⟨hin, br_t ((z.resolve_left z0).trans (nI_1 c).symm) fin⟩
      · have z0 : ¬ hc s = 0 := fun q => z (Or.inl q)
        have z1 : ¬ hc s = nI c + 1 := fun q => z (Or.inr (q.trans (nI_1 c)))
        refine ⟨0, cp, hc, ht, Or.inl rfl, C, E, fun post oc hl tn cw sw ob h => ?_, fun post a sh hl dn rg ce op tg nu pp sp h => ?_⟩
        · unfold wpX_hitSlot
          refine xi_yes bc (br_f xw_1 (xi_yes bm (br_f xw_1 ⟨hin, ?_⟩)))
          rw [hcs]
          exact br_f z0 ⟨hin, br_f z1 h⟩
        · refine br_f xw_1 (y_yes bc ⟨hin, ?_⟩)
          rw [hts]
          exact br_f z0 ⟨hin, br_f z1 h⟩
  · refine ⟨0, cp, hc, ht, Or.inl rfl, C, E, fun post oc hl tn cw sw ob h => ?_, fun post a sh hl dn rg ce op tg nu pp sp h => br_t rfl h⟩
    unfold wpX_hitSlot
    by_cases bc : v2 < 0 ∨ 2 < v2
    · exact xi_no bc (br_t rfl h)
    · exact xi_yes bc (br_f xw_1 (xi_no bm (br_t rfl h)))
end HITS
theorem i_vc_hitRegister {k : Nat} {u : SX} {v : SY} (I : i_Rel k u v) (hk : k + 5 ≤ 2560) (v1 : Int32) (v2 : Int32) (v3 : Int32) : wpX_hitRegister (fun r u' => wpY_hitRegister (fun r' v' => r' = r ∧ i_Rel (k + 5) u' v') v v1 v2 v3) u v1 v2 v3 := by
  obtain ⟨d, hd, R⟩ := I
  have R0 := R
  obtain ⟨p, o, hl, cp, hc, cw, sw, ob, rg, ce, op, tg, nu, sp, ht, rfl, rfl, f1, f2, f3, f4, f5, f6, f7, S⟩ := R0
  unfold wpX_hitRegister wpY_hitRegister
  by_cases b1 : v1 < 0 ∨ 3 < v1
  · exact xi_no b1 (br_t rfl (y_no b1 (br_t rfl ⟨rfl, ir_0 hd R⟩)))
  obtain ⟨s, hs, rfl⟩ := in_j (n := 3) (by decide) b1
  refine xi_yes b1 (br_f xw_1 ?_)
  by_cases bm : v3 < 1 ∨ 255 < v3
  · obtain ⟨r, cp', hc', ht', hr, C', E', X, Y⟩ := hs_both f5 f6 (s := s) (by omega) v2 v3 255 0 (Or.inr ⟨bm, rfl⟩)
    refine X _ _ _ _ _ _ _ ?_
    rcases hr with rfl | rfl
    · exact br_t rfl (y_yes b1 (br_f xw_1 (y_no bm (Y _ _ _ _ _ _ _ _ _ _ _ _ (br_t rfl ⟨rfl, ir_0 hd ⟨p, o, hl, cp', hc', cw, sw, ob, rg, ce, op, tg, nu, sp, ht', rfl, rfl, f1, f2, f3, f4, C', E', f7, S⟩⟩)))))
    · exact br_f xw_1 (y_yes b1 (br_f xw_1 (y_no bm (Y _ _ _ _ _ _ _ _ _ _ _ _ (br_f xw_1 ⟨rfl, ir_0 hd ⟨p, o, hl, cp', hc', cw, sw, ob, rg, ce, op, tg, nu, sp, ht', rfl, rfl, f1, f2, f3, f4, C', E', f7, S⟩⟩)))))
  · obtain ⟨r, cp', hc', ht', hr, C', E', X, Y⟩ := hs_both f5 f6 (s := s) (by omega) v2 v3 255 1 (Or.inl ⟨bm, rfl⟩)
    refine X _ _ _ _ _ _ _ ?_
    rcases hr with rfl | rfl
    · exact br_t rfl (y_yes b1 (br_f xw_1 (y_yes bm (Y _ _ _ _ _ _ _ _ _ _ _ _ (br_t rfl ⟨rfl, ir_0 hd ⟨p, o, hl, cp', hc', cw, sw, ob, rg, ce, op, tg, nu, sp, ht', rfl, rfl, f1, f2, f3, f4, C', E', f7, S⟩⟩)))))
    · exact br_f xw_1 (y_yes b1 (br_f xw_1 (y_yes bm (Y _ _ _ _ _ _ _ _ _ _ _ _ (br_f xw_1 ⟨rfl, ir_0 hd ⟨p, o, hl, cp', hc', cw, sw, ob, rg, ce, op, tg, nu, sp, ht', rfl, rfl, f1, f2, f3, f4, C', E', f7, S⟩⟩)))))
theorem hn_01 {r : Int32} (h : r = 0 ∨ r = 1) : narrow .boolean (.int r) = .int r := by
  rcases h with rfl | rfl <;> rfl
theorem i_vc_hitPlace {k : Nat} {u : SX} {v : SY} (I : i_Rel k u v) (hk : k + 5 ≤ 2560) (v1 : Int32) (v2 : Int32) : wpX_hitPlace (fun r u' => wpY_hitPlace (fun r' v' => r' = r ∧ i_Rel (k + 5) u' v') v v1 v2) u v1 v2 := by
  obtain ⟨d, hd, p, o, hl, cp, hc, cw, sw, ob, rg, ce, op, tg, nu, sp, ht, rfl, rfl, f1, f2, f3, f4, f5, f6, f7, S⟩ := I
  unfold wpX_hitPlace wpY_hitPlace
  by_cases bm : v2 < 1 ∨ 31 < v2
  · obtain ⟨r, cp', hc', ht', hr, C', E', X, Y⟩ := hs_both f5 f6 (s := 4) (by decide) v1 v2 31 0 (Or.inr ⟨bm, rfl⟩)
    refine X _ _ _ _ _ _ _ ⟨hn_01 hr, y_no bm ?_⟩
    unfold wY_hitPlace_18 wY_hitPlace_19
    exact Y _ _ _ _ _ _ _ _ _ _ _ _ ⟨hn_01 hr, rfl, ir_0 hd ⟨p, o, hl, cp', hc', cw, sw, ob, rg, ce, op, tg, nu, sp, ht', rfl, rfl, f1, f2, f3, f4, C', E', f7, S⟩⟩
  · obtain ⟨r, cp', hc', ht', hr, C', E', X, Y⟩ := hs_both f5 f6 (s := 4) (by decide) v1 v2 31 1 (Or.inl ⟨bm, rfl⟩)
    refine X _ _ _ _ _ _ _ ⟨hn_01 hr, y_yes bm ?_⟩
    unfold wY_hitPlace_19
    exact Y _ _ _ _ _ _ _ _ _ _ _ _ ⟨hn_01 hr, rfl, ir_0 hd ⟨p, o, hl, cp', hc', cw, sw, ob, rg, ce, op, tg, nu, sp, ht', rfl, rfl, f1, f2, f3, f4, C', E', f7, S⟩⟩
theorem i_vc_hitWork {k : Nat} {u : SX} {v : SY} (I : i_Rel k u v) (hk : k + 5 ≤ 2560) (v1 : Int32) (v2 : Int32) : wpX_hitWork (fun r u' => wpY_hitWork (fun r' v' => r' = r ∧ i_Rel (k + 5) u' v') v v1 v2) u v1 v2 := by
  obtain ⟨d, hd, p, o, hl, cp, hc, cw, sw, ob, rg, ce, op, tg, nu, sp, ht, rfl, rfl, f1, f2, f3, f4, f5, f6, f7, S⟩ := I
  unfold wpX_hitWork wpY_hitWork
  by_cases bm : v2 < 1 ∨ 255 < v2
  · obtain ⟨r, cp', hc', ht', hr, C', E', X, Y⟩ := hs_both f5 f6 (s := 5) (by decide) v1 v2 255 0 (Or.inr ⟨bm, rfl⟩)
    refine X _ _ _ _ _ _ _ ⟨hn_01 hr, y_no bm ?_⟩
    exact Y _ _ _ _ _ _ _ _ _ _ _ _ ⟨hn_01 hr, rfl, ir_0 hd ⟨p, o, hl, cp', hc', cw, sw, ob, rg, ce, op, tg, nu, sp, ht', rfl, rfl, f1, f2, f3, f4, C', E', f7, S⟩⟩
  · obtain ⟨r, cp', hc', ht', hr, C', E', X, Y⟩ := hs_both f5 f6 (s := 5) (by decide) v1 v2 255 1 (Or.inl ⟨bm, rfl⟩)
    refine X _ _ _ _ _ _ _ ⟨hn_01 hr, y_yes bm ?_⟩
    exact Y _ _ _ _ _ _ _ _ _ _ _ _ ⟨hn_01 hr, rfl, ir_0 hd ⟨p, o, hl, cp', hc', cw, sw, ob, rg, ce, op, tg, nu, sp, ht', rfl, rfl, f1, f2, f3, f4, C', E', f7, S⟩⟩
/-! code words hit -/
section HITW
variable {cw sw ce op tg nu sp : Nat → Int32}
theorem hw_c (H : sm_Ws cw sw ce op tg nu sp) {c : Nat} (w : Int32) (W : sm_W 13 w (ce c) 1) : sm_Ws (upd cw c w) sw ce op tg nu (upd sp (32 + c) 1) := by
  refine ⟨fun i hi => ?_, fun i hi => ?_⟩
  · by_cases z : i = c
    · subst z
      rw [pk_us, pk_us]
      exact W
    · rw [pk_un z, pk_un (by omega)]
      exact H.1 i hi
  · rw [pk_un (by omega)]
    exact H.2 i hi
theorem hw_s (H : sm_Ws cw sw ce op tg nu sp) {q : Nat} (hq : q < 32) (w : Int32) (W : sm_St w (op q) (tg q) (nu q) 1) : sm_Ws cw (upd sw q w) ce op tg nu (upd sp q 1) := by
  refine ⟨fun i hi => ?_, fun i hi => ?_⟩
  · rw [pk_un (by omega)]
    exact H.1 i hi
  · by_cases z : i = q
    · subst z
      rw [pk_us, pk_us]
      exact W
    · rw [pk_un z, pk_un z]
      exact H.2 i hi
theorem hw_b {w i : Nat} (hi : i < 32) : nI w ^^^ ((1 : Int32) <<< (nI i &&& 31)) = nI (w ^^^ 2 ^ i) := by
  rw [show (1 : Int32) <<< (nI i &&& 31) = nI (1 * 2 ^ i) from sm_shl1 (by decide) hi, Nat.one_mul, nx_xor]
end HITW
theorem i_vc_hitData {k : Nat} {u : SX} {v : SY} (I : i_Rel k u v) (hk : k + 5 ≤ 2560) (v1 : Int32) (v2 : Int32) : wpX_hitData (fun r u' => wpY_hitData (fun r' v' => r' = r ∧ i_Rel (k + 5) u' v') v v1 v2) u v1 v2 := by
  obtain ⟨d, hd, R⟩ := I
  have R0 := R
  obtain ⟨p, o, hl, cp, hc, cw, sw, ob, rg, ce, op, tg, nu, sp, ht, rfl, rfl, f1, f2, f3, f4, f5, f6, f7, S⟩ := R0
  unfold wpX_hitData wpY_hitData
  by_cases b1 : v1 < 0 ∨ 15 < v1
  · exact xi_no b1 (br_t rfl (y_no b1 (br_t rfl ⟨rfl, ir_0 hd R⟩)))
  obtain ⟨c, hc16, rfl⟩ := in_j (n := 15) (by decide) b1
  refine xi_yes b1 (br_f xw_1 ?_)
  unfold wpX_hitWord__cellWords
  rw [show (13 : Int32) - 1 = 12 from by decide]
  by_cases b2 : v2 < 0 ∨ 12 < v2
  · exact xi_no b2 (br_t rfl (br_t rfl (y_yes b1 (br_f xw_1 (y_no b2 ⟨rfl, ir_0 hd R⟩)))))
  obtain ⟨i, hi, rfl⟩ := in_j (n := 12) (by decide) b2
  obtain ⟨wn, vn, sn, ew, ev, es, W⟩ := S.1 c (by omega)
  have hin : vp_in (nI c) 16 := vp_in_nI (by omega) (by decide)
  have ec : cw (nI c).toNatClampNeg = nI wn := by rw [nI_clamp (by omega), ew]
  have e32 : 32 + nI c = nI (32 + c) := nI_add 32 c
  have esp : sp (32 + nI c).toNatClampNeg = nI sn := by rw [e32, nI_clamp (by omega), es]
  have hsp : vp_in (32 + nI c) 48 := by rw [e32]; exact vp_in_nI (by omega) (by decide)
  have hs2 := sm_Wd_2 W
  have hs01 : sn = 0 ∨ sn = 1 := by omega
  refine xi_yes b2 (br_f xw_1 ⟨hin, ?_⟩)
  rw [ec]
  refine xw_parW (b := 13) _ W ?_
  rcases hs01 with rfl | rfl
  · have eu : upd cw (nI c).toNatClampNeg (nI wn ^^^ ((1 : Int32) <<< (nI i &&& 31))) = upd cw c (nI (wn ^^^ 2 ^ i)) := by rw [hw_b (by omega), nI_clamp (by omega)]
    have eus : upd sp (32 + nI c).toNatClampNeg (vp_nar .boolean 1) = upd sp (32 + c) 1 := by rw [e32, nI_clamp (by omega), y_b1]
    refine br_t rfl ⟨hin, hin, nm_r eu (br_f xw_1 (y_yes b1 (br_f xw_1 (y_yes b2 ⟨hsp, br_t esp ⟨hsp, nm_r eus (br_f xw_1 ⟨rfl, ir_0 hd ⟨p, o, hl, cp, hc, _, sw, ob, rg, ce, op, tg, nu, _, ht, rfl, rfl, f1, f2, f3, f4, f5, f6, f7, hw_c S _ ?_⟩⟩)⟩⟩))))⟩
    exact ⟨wn ^^^ 2 ^ i, vn, 1, rfl, ev, rfl, sm_Wd_1 W (by omega)⟩
  · exact br_f (by decide) (br_t rfl (y_yes b1 (br_f xw_1 (y_yes b2 ⟨hsp, br_f (by rw [esp]; decide) (br_t rfl ⟨rfl, ir_0 hd R⟩)⟩))))
theorem i_vc_hitProgram {k : Nat} {u : SX} {v : SY} (I : i_Rel k u v) (hk : k + 5 ≤ 2560) (v1 : Int32) (v2 : Int32) : wpX_hitProgram (fun r u' => wpY_hitProgram (fun r' v' => r' = r ∧ i_Rel (k + 5) u' v') v v1 v2) u v1 v2 := by
  obtain ⟨d, hd, R⟩ := I
  have R0 := R
  obtain ⟨p, o, hl, cp, hc, cw, sw, ob, rg, ce, op, tg, nu, sp, ht, rfl, rfl, f1, f2, f3, f4, f5, f6, f7, S⟩ := R0
  unfold wpX_hitProgram wpY_hitProgram
  by_cases b1 : v1 < 0 ∨ 31 < v1
  · exact xi_no b1 (br_t rfl (y_no b1 (br_t rfl ⟨rfl, ir_0 hd R⟩)))
  obtain ⟨c, hc32, rfl⟩ := in_j (n := 31) (by decide) b1
  refine xi_yes b1 (br_f xw_1 ?_)
  unfold wpX_hitWord__stepWords
  rw [show (22 : Int32) - 1 = 21 from by decide]
  by_cases b2 : v2 < 0 ∨ 21 < v2
  · exact xi_no b2 (br_t rfl (br_t rfl (y_yes b1 (br_f xw_1 (y_no b2 ⟨rfl, ir_0 hd R⟩)))))
  obtain ⟨i, hi, rfl⟩ := in_j (n := 21) (by decide) b2
  obtain ⟨on, t, nn, wn, sn, h1, h2, h3, e1, e2, e3, ew, es, W⟩ := S.2 c (by omega)
  have hin : vp_in (nI c) 32 := vp_in_nI (by omega) (by decide)
  have ec : sw (nI c).toNatClampNeg = nI wn := by rw [nI_clamp (by omega), ew]
  have esp : sp (nI c).toNatClampNeg = nI sn := by rw [nI_clamp (by omega), es]
  have hsp : vp_in (nI c) 48 := vp_in_nI (by omega) (by decide)
  have hs2 := sm_Wd_2 W
  have hs01 : sn = 0 ∨ sn = 1 := by omega
  refine xi_yes b2 (br_f xw_1 ⟨hin, ?_⟩)
  rw [ec]
  refine xw_parW (b := 22) _ W ?_
  rcases hs01 with rfl | rfl
  · have eu : upd sw (nI c).toNatClampNeg (nI wn ^^^ ((1 : Int32) <<< (nI i &&& 31))) = upd sw c (nI (wn ^^^ 2 ^ i)) := by rw [hw_b (by omega), nI_clamp (by omega)]
    have eus : upd sp (nI c).toNatClampNeg (vp_nar .boolean 1) = upd sp c 1 := by rw [nI_clamp (by omega), y_b1]
    refine br_t rfl ⟨hin, hin, nm_r eu (br_f xw_1 (y_yes b1 (br_f xw_1 (y_yes b2 ⟨hsp, br_t esp ⟨hsp, nm_r eus (br_f xw_1 ⟨rfl, ir_0 hd ⟨p, o, hl, cp, hc, cw, _, ob, rg, ce, op, tg, nu, _, ht, rfl, rfl, f1, f2, f3, f4, f5, f6, f7, hw_s S (by omega) _ ?_⟩⟩)⟩⟩))))⟩
    exact ⟨on, t, nn, wn ^^^ 2 ^ i, 1, h1, h2, h3, e1, e2, e3, rfl, rfl, sm_Wd_1 W (by omega)⟩
  · exact br_f (by decide) (br_t rfl (y_yes b1 (br_f xw_1 (y_yes b2 ⟨hsp, br_f (by rw [esp]; decide) (br_t rfl ⟨rfl, ir_0 hd R⟩)⟩))))
end
section
/-! 13: the readers -/
theorem i_vc_register {k : Nat} {u : SX} {v : SY} (I : i_Rel k u v) (hk : k + 5 ≤ 2560) (v1 : Int32) : wpX_register (fun r => wpY_register (fun r' => r' = r ∧ i_Rel (k + 5) u v) v v1) u v1 := by
  obtain ⟨d, hd, R⟩ := I
  have R0 := R
  obtain ⟨p, o, hl, cp, hc, cw, sw, ob, rg, ce, op, tg, nu, sp, ht, rfl, rfl, f1, f2, f3, f4, f5, f6, f7, S⟩ := R0
  unfold wpX_register wpY_register
  by_cases b1 : v1 < 0 ∨ 3 < v1
  · exact xi_no b1 (br_t rfl (y_no b1 (br_t rfl ⟨rfl, ir_0 hd R⟩)))
  obtain ⟨s, hs, rfl⟩ := in_j (n := 3) (by decide) b1
  refine xi_yes b1 (br_f xw_1 (xv_voted _ (by omega) (f5 s (by omega)) ?_))
  rw [sm_val_r (by omega)]
  exact y_yes b1 (br_f xw_1 ⟨vp_in_nI (by omega) (by decide), by rw [nI_clamp (by omega)], ir_0 hd R⟩)
theorem i_vc_place {k : Nat} {u : SX} {v : SY} (I : i_Rel k u v) (hk : k + 5 ≤ 2560) : wpX_place (fun r => wpY_place (fun r' => r' = r ∧ i_Rel (k + 5) u v) v) u := by
  obtain ⟨d, hd, R⟩ := I
  have R0 := R
  obtain ⟨p, o, hl, cp, hc, cw, sw, ob, rg, ce, op, tg, nu, sp, ht, rfl, rfl, f1, f2, f3, f4, f5, f6, f7, S⟩ := R0
  unfold wpX_place wpY_place
  exact xv_voted (s := 4) _ (by decide) (f5 4 (by decide)) ⟨rfl, ir_0 hd R⟩
theorem i_vc_data {k : Nat} {u : SX} {v : SY} (I : i_Rel k u v) (hk : k + 5 ≤ 2560) (v1 : Int32) : wpX_data (fun r => wpY_data (fun r' => r' = r ∧ i_Rel (k + 5) u v) v v1) u v1 := by
  obtain ⟨d, hd, R⟩ := I
  have R0 := R
  obtain ⟨p, o, hl, cp, hc, cw, sw, ob, rg, ce, op, tg, nu, sp, ht, rfl, rfl, f1, f2, f3, f4, f5, f6, f7, S⟩ := R0
  unfold wpX_data wpY_data
  by_cases b1 : v1 < 0 ∨ 15 < v1
  · exact xi_no b1 (br_t rfl (y_no b1 (br_t rfl ⟨rfl, ir_0 hd R⟩)))
  obtain ⟨c, hc16, rfl⟩ := in_j (n := 15) (by decide) b1
  obtain ⟨wn, vn, sn, ew, ev, es, W⟩ := S.1 c (by omega)
  have ec : cw (nI c).toNatClampNeg = nI wn := by rw [nI_clamp (by omega), ew]
  refine xi_yes b1 (br_f xw_1 ⟨vp_in_nI (by omega) (by decide), ?_⟩)
  rw [ec]
  refine xw_decW (b := 13) _ W ?_
  exact y_yes b1 (br_f xw_1 ⟨vp_in_nI (by omega) (by decide), by rw [nI_clamp (by omega), ev], ir_0 hd R⟩)
theorem i_vc_outs {k : Nat} {u : SX} {v : SY} (I : i_Rel k u v) (hk : k + 5 ≤ 2560) : wpX_outs (fun r => wpY_outs (fun r' => r' = r ∧ i_Rel (k + 5) u v) v) u := by
  obtain ⟨d, hd, R⟩ := I
  have R0 := R
  obtain ⟨p, o, hl, cp, hc, cw, sw, ob, rg, ce, op, tg, nu, sp, ht, rfl, rfl, F⟩ := R0
  exact ⟨rfl, ir_0 hd R⟩
theorem i_vc_out {k : Nat} {u : SX} {v : SY} (I : i_Rel k u v) (hk : k + 5 ≤ 2560) (v1 : Int32) : wpX_out (fun r => wpY_out (fun r' => r' = r ∧ i_Rel (k + 5) u v) v v1) u v1 := by
  obtain ⟨d, hd, R⟩ := I
  have R0 := R
  obtain ⟨p, o, hl, cp, hc, cw, sw, ob, rg, ce, op, tg, nu, sp, ht, rfl, rfl, f1, f2, f3, f4, f5, f6, f7, S⟩ := R0
  unfold wpX_out wpY_out
  by_cases b0 : v1 < 0
  · exact xi_no (Or.inl b0) (br_t rfl (br_t b0 ⟨rfl, ir_0 hd R⟩))
  obtain ⟨j, hj, rfl⟩ := nI_of b0
  by_cases z : o = 0
  · subst z
    have b1 : nI 0 - 1 < nI j := Int32.lt_of_lt_of_le (by decide) (nI_pos' hj)
    exact xi_no (Or.inr b1) (br_t rfl (br_f b0 (br_t (nI_le (a := 0) (by omega) hj) ⟨rfl, ir_0 hd R⟩)))
  · have e : nI o - 1 = nI (o - 1) := pk_sub (b := 1) (by omega)
    by_cases q : j < o
    · have b1 : ¬ (nI j < 0 ∨ nI o - 1 < nI j) := by
        rw [e]
        exact fun w => w.elim b0 (nI_nlt (by omega) (by omega))
      exact xi_yes b1 (br_f xw_1 ⟨vp_in_nI (by omega) (by decide), br_f b0 (br_f (nI_ge q (by omega)) ⟨vp_in_nI (by omega) (by decide), rfl, ir_0 hd R⟩)⟩)
    · have b1 : nI o - 1 < nI j := by
        rw [e]
        exact nI_lt (by omega) hj
      exact xi_no (Or.inr b1) (br_t rfl (br_f b0 (br_t (nI_le (by omega) hj) ⟨rfl, ir_0 hd R⟩)))
theorem i_vc_stopped {k : Nat} {u : SX} {v : SY} (I : i_Rel k u v) (hk : k + 5 ≤ 2560) : wpX_stopped (fun r => wpY_stopped (fun r' => r' = r ∧ i_Rel (k + 5) u v) v) u := by
  obtain ⟨d, hd, R⟩ := I
  have R0 := R
  obtain ⟨p, o, hl, cp, hc, cw, sw, ob, rg, ce, op, tg, nu, sp, ht, rfl, rfl, f1, f2, f3, f4, f5, f6, f7, S⟩ := R0
  exact ⟨hn_01 f4, hn_01 f4, rfl, ir_0 hd R⟩
section COUNT
variable {oc hl tn : Int32} {cp hc cw sw ob : Nat → Int32} {a sh hl2 dn : Int32} {rg ce op tg nu pp sp ht : Nat → Int32}
def sm_su (f : Nat → Nat) : Nat → Nat
  | 0 => 0
  | n + 1 => sm_su f n + f n
theorem sm_su_add (f : Nat → Nat) (x : Nat) : ∀ n, sm_su f (x + n) = sm_su f x + sm_su (fun c => f (x + c)) n
  | 0 => rfl
  | n + 1 => by
    show sm_su f (x + n) + f (x + n) = sm_su f x + (sm_su (fun c => f (x + c)) n + f (x + n))
    rw [sm_su_add f x n, Nat.add_assoc]
theorem xp_32 (post : Int32 → Prop) {g : Nat → Nat} {A : Nat} (H : ∀ q, q < 32 → ∃ wn vn, sw q = nI wn ∧ sm_Wd 22 vn wn (g q)) (h : post (nI (A + sm_su g 32))) : ∀ k i n, i + k = 32 → k < n → wX_spoiled_32 post oc hl tn cp hc cw sw ob n (nI (A + sm_su g i)) (nI i) := by
  intro k
  induction k with
  | zero =>
    intro i n e hn
    obtain ⟨m, rfl⟩ : ∃ m, n = m + 1 := ⟨n - 1, by omega⟩
    obtain rfl : i = 32 := by omega
    exact br_t (by decide) h
  | succ k ih =>
    intro i n e hn
    obtain ⟨m, rfl⟩ : ∃ m, n = m + 1 := ⟨n - 1, by omega⟩
    obtain ⟨wn, vn, ew, W⟩ := H i (by omega)
    have ec : sw (nI i).toNatClampNeg = nI wn := by rw [nI_clamp (by omega), ew]
    refine br_f (nI_ge (b := 32) (by omega) (by decide)) ⟨vp_in_nI (by omega) (by decide), ?_⟩
    rw [ec]
    refine xw_parW (b := 22) _ W (nm_r (e' := nI (A + sm_su g (i + 1))) ?_ (nm_r (nI_1 i) (ih (i + 1) m (by omega) (by omega))))
    rw [nI_add, Nat.add_assoc]
    rfl
theorem xp_16 (post : Int32 → Prop) {g : Nat → Nat} (H : ∀ q, q < 16 → ∃ wn vn, cw q = nI wn ∧ sm_Wd 13 vn wn (g q)) (h : ∃ n, wX_spoiled_32 post oc hl tn cp hc cw sw ob n (nI (sm_su g 16)) 0) : ∀ k i n, i + k = 16 → k < n → wX_spoiled_4 post oc hl tn cp hc cw sw ob n (nI (sm_su g i)) (nI i) := by
  intro k
  induction k with
  | zero =>
    intro i n e hn
    obtain ⟨m, rfl⟩ : ∃ m, n = m + 1 := ⟨n - 1, by omega⟩
    obtain rfl : i = 16 := by omega
    exact br_t (by decide) h
  | succ k ih =>
    intro i n e hn
    obtain ⟨m, rfl⟩ : ∃ m, n = m + 1 := ⟨n - 1, by omega⟩
    obtain ⟨wn, vn, ew, W⟩ := H i (by omega)
    have ec : cw (nI i).toNatClampNeg = nI wn := by rw [nI_clamp (by omega), ew]
    refine br_f (nI_ge (b := 16) (by omega) (by decide)) ⟨vp_in_nI (by omega) (by decide), ?_⟩
    rw [ec]
    refine xw_parW (b := 13) _ W (nm_r (e' := nI (sm_su g (i + 1))) ?_ (nm_r (nI_1 i) (ih (i + 1) m (by omega) (by omega))))
    rw [nI_add]
    rfl
theorem yp_48 (post : Int32 → Prop) {g : Nat → Nat} (H : ∀ q, q < 48 → sp q = nI (g q) ∧ g q < 2) (h : post (nI (sm_su g 48))) : ∀ k i n, i + k = 48 → k < n → wY_spoiled_4 post a sh hl2 dn rg ce op tg nu pp sp ht n (nI (sm_su g i)) (nI i) := by
  intro k
  induction k with
  | zero =>
    intro i n e hn
    obtain ⟨m, rfl⟩ : ∃ m, n = m + 1 := ⟨n - 1, by omega⟩
    obtain rfl : i = 48 := by omega
    exact br_t (by decide) h
  | succ k ih =>
    intro i n e hn
    obtain ⟨m, rfl⟩ : ∃ m, n = m + 1 := ⟨n - 1, by omega⟩
    obtain ⟨es, h2⟩ := H i (by omega)
    have ec : sp (nI i).toNatClampNeg = nI (g i) := by rw [nI_clamp (by omega), es]
    have I := ih (i + 1) m (by omega) (by omega)
    have h01 : g i = 0 ∨ g i = 1 := by omega
    refine br_f (nI_ge (b := 48) (by omega) (by decide)) ⟨vp_in_nI (by omega) (by decide), ?_⟩
    rw [ec]
    rcases h01 with z | z
    · rw [show sm_su g (i + 1) = sm_su g i from by show sm_su g i + g i = _; rw [z]; rfl] at I
      exact br_t (by rw [z]; rfl) (nm_r (nI_1 i) I)
    · rw [show sm_su g (i + 1) = sm_su g i + 1 from by show sm_su g i + g i = _; rw [z]] at I
      exact br_f (by rw [z]; decide) (nm_r (nI_1 _) (nm_r (nI_1 i) I))
theorem xp_32s (post : Int32 → Prop) {g : Nat → Nat} {A : Nat} (H : ∀ q, q < 32 → ∃ wn vn, sw q = nI wn ∧ sm_Wd 22 vn wn (g q)) (h : post (nI (A + sm_su g 32))) : wX_spoiled_32 post oc hl tn cp hc cw sw ob 33 (nI A) 0 := by
  have i := xp_32 (oc := oc) (hl := hl) (tn := tn) (cp := cp) (hc := hc) (cw := cw) (ob := ob) post H h 32 0 33 (by omega) (by omega)
  rw [show A + sm_su g 0 = A from rfl] at i
  exact i
theorem xp_all (post : Int32 → Prop) {g f : Nat → Nat} (Hc : ∀ q, q < 16 → ∃ wn vn, cw q = nI wn ∧ sm_Wd 13 vn wn (f q)) (Hs : ∀ q, q < 32 → ∃ wn vn, sw q = nI wn ∧ sm_Wd 22 vn wn (g q)) (h : post (nI (sm_su f 16 + sm_su g 32))) : wpX_spoiled post (oc, hl, tn, cp, hc, cw, sw, ob) := by
  have i := xp_16 (oc := oc) (hl := hl) (tn := tn) (cp := cp) (hc := hc) (sw := sw) (ob := ob) post Hc ⟨33, xp_32s post Hs h⟩ 16 0 17 (by omega) (by omega)
  exact ⟨17, i⟩
theorem yp_all (post : Int32 → Prop) {g : Nat → Nat} (H : ∀ q, q < 48 → sp q = nI (g q) ∧ g q < 2) (h : post (nI (sm_su g 48))) : wpY_spoiled post (a, sh, hl2, dn, rg, ce, op, tg, nu, pp, sp, ht) := by
  have i := yp_48 (a := a) (sh := sh) (hl2 := hl2) (dn := dn) (rg := rg) (ce := ce) (op := op) (tg := tg) (nu := nu) (pp := pp) (ht := ht) post H h 48 0 49 (by omega) (by omega)
  exact ⟨49, i⟩
theorem sp_key (g : Nat → Nat) : sm_su (fun c => g (32 + c)) 16 + sm_su g 32 = sm_su g 48 := by
  rw [Nat.add_comm]
  exact (sm_su_add g 32 16).symm
end COUNT
theorem i_vc_spoiled {k : Nat} {u : SX} {v : SY} (I : i_Rel k u v) (hk : k + 5 ≤ 2560) : wpX_spoiled (fun r => wpY_spoiled (fun r' => r' = r ∧ i_Rel (k + 5) u v) v) u := by
  obtain ⟨d, hd, R⟩ := I
  have R0 := R
  obtain ⟨p, o, hl, cp, hc, cw, sw, ob, rg, ce, op, tg, nu, sp, ht, rfl, rfl, f1, f2, f3, f4, f5, f6, f7, S⟩ := R0
  have Hc : ∀ q, q < 16 → ∃ wn vn, cw q = nI wn ∧ sm_Wd 13 vn wn (sp (32 + q)).toNatClampNeg := by
    intro q hq
    obtain ⟨wn, vn, sn, ew, ev, es, W⟩ := S.1 q hq
    have h2 := sm_Wd_2 W
    rw [es, nI_clamp (by omega)]
    exact ⟨wn, vn, ew, W⟩
  have Hs : ∀ q, q < 32 → ∃ wn vn, sw q = nI wn ∧ sm_Wd 22 vn wn (sp q).toNatClampNeg := by
    intro q hq
    obtain ⟨on, t, nn, wn, sn, h1, h2, h3, e1, e2, e3, ew, es, W⟩ := S.2 q hq
    have h2 := sm_Wd_2 W
    rw [es, nI_clamp (by omega)]
    exact ⟨wn, _, ew, W⟩
  have Hy : ∀ q, q < 48 → sp q = nI (sp q).toNatClampNeg ∧ (sp q).toNatClampNeg < 2 := by
    intro q hq
    by_cases z : q < 32
    · obtain ⟨on, t, nn, wn, sn, h1, h2, h3, e1, e2, e3, ew, es, W⟩ := S.2 q z
      have h2 := sm_Wd_2 W
      rw [es, nI_clamp (by omega)]
      exact ⟨rfl, h2⟩
    · obtain ⟨wn, vn, sn, ew, ev, es, W⟩ := S.1 (q - 32) (by omega)
      rw [show 32 + (q - 32) = q by omega] at es
      have h2 := sm_Wd_2 W
      rw [es, nI_clamp (by omega)]
      exact ⟨rfl, h2⟩
  refine xp_all _ (g := fun q => (sp q).toNatClampNeg) (f := fun q => (sp (32 + q)).toNatClampNeg) Hc Hs ?_
  have key := sp_key (fun q => (sp q).toNatClampNeg)
  generalize sm_su (fun q => (sp (32 + q)).toNatClampNeg) 16 + sm_su (fun q => (sp q).toNatClampNeg) 32 = N at key ⊢
  subst key
  exact yp_all _ (g := fun q => (sp q).toNatClampNeg) Hy ⟨rfl, ir_0 hd R⟩
end
