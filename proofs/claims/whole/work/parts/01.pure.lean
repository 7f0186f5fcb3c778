/-! 01: numbers and code words over the naturals -/
theorem pk_us {f : Nat → Int32} {k : Nat} {x : Int32} : upd f k x k = x := if_pos rfl
theorem pk_un {f : Nat → Int32} {k j : Nat} {x : Int32} (h : j ≠ k) : upd f k x j = f j := if_neg h
theorem pk_mul (a b : Nat) : nI a * nI b = nI (a * b) := (Int32.ofNat_mul a b).symm
theorem pk_sub {a b : Nat} (h : b ≤ a) : nI a - nI b = nI (a - b) := by
  obtain ⟨c, rfl⟩ : ∃ c, a = c + b := ⟨a - b, by omega⟩
  rw [← nI_add, Int32.add_sub_cancel, Nat.add_sub_cancel]
theorem pk_div {a d : Nat} (ha : a < 2 ^ 31) (h0 : 0 < d) (hd : d < 2 ^ 31) : nI a / nI d = nI (a / d) := by
  apply Int32.toInt_inj.mp
  rw [lg_idiv_nonneg (by rw [nI_toInt ha]; omega) (by rw [nI_toInt hd]; omega), nI_toInt ha, nI_toInt hd, nI_toInt (Nat.lt_of_le_of_lt (Nat.div_le_self a d) ha)]
  first | rfl | exact (Int.natCast_ediv _ _).symm
theorem pk_rem {a d : Nat} (ha : a < 2 ^ 31) (h0 : 0 < d) (hd : d < 2 ^ 31) : nI a - nI a / nI d * nI d = nI (a % d) := by
  rw [pk_div ha h0 hd, pk_mul, pk_sub (Nat.div_mul_le_self a d)]
  exact congrArg nI (by have := Nat.div_add_mod' a d; omega)
theorem pk_ix (x : Int32) {n : Nat} (hn : n < 2 ^ 31) : x < 0 ∨ nI n ≤ x ∨ ∃ j : Nat, j < n ∧ x = nI j := by
  by_cases h : x < 0
  · exact Or.inl h
  · obtain ⟨j, hj, rfl⟩ := nI_of h
    by_cases h2 : j < n
    · exact Or.inr (Or.inr ⟨j, h2, rfl⟩)
    · exact Or.inr (Or.inl (nI_le (by omega) hj))
theorem pk_tn {n : Nat} (h : n < 2 ^ 32) : (nI n).toBitVec.toNat = n := Nat.mod_eq_of_lt h
theorem pk_and (x : Int32) {m : Int32} (k : Nat) (hm : m.toBitVec.toNat = 2 ^ k - 1) : x &&& m = nI (x.toBitVec.toNat % 2 ^ k) := by
  apply Int32.toBitVec_inj.mp
  apply BitVec.eq_of_toNat_eq
  rw [Int32.toBitVec_and, BitVec.toNat_and, hm, Nat.and_two_pow_sub_one_eq_mod]
  show _ = (BitVec.ofNat 32 _).toNat
  rw [BitVec.toNat_ofNat]
  exact (Nat.mod_eq_of_lt (Nat.lt_of_le_of_lt (Nat.mod_le _ _) x.toBitVec.isLt)).symm
theorem pk_andN {n : Nat} (h : n < 2 ^ 32) {m : Int32} (k : Nat) (hm : m.toBitVec.toNat = 2 ^ k - 1) : nI n &&& m = nI (n % 2 ^ k) := by
  rw [pk_and _ k hm, pk_tn h]
theorem pk_shl (a s : Int32) (k : Nat) (hs : (s.toBitVec.smod 32).toNat = k) : (a <<< s).toBitVec.toNat = a.toBitVec.toNat * 2 ^ k % 2 ^ 32 := by
  show (a.toBitVec <<< (s.toBitVec.smod 32).toNat).toNat = _
  rw [hs, BitVec.toNat_shiftLeft, Nat.shiftLeft_eq]
theorem pk_shlN {n : Nat} (s : Int32) (k : Nat) (hs : (s.toBitVec.smod 32).toNat = k) (h : n * 2 ^ k < 2 ^ 32) : nI n <<< s = nI (n * 2 ^ k) := by
  apply Int32.toBitVec_inj.mp
  apply BitVec.eq_of_toNat_eq
  have hn : n < 2 ^ 32 := Nat.lt_of_le_of_lt (Nat.le_mul_of_pos_right n (Nat.two_pow_pos k)) h
  rw [pk_shl _ _ k hs, pk_tn hn, pk_tn h, Nat.mod_eq_of_lt h]
theorem pk_shr (a s : Int32) (k : Nat) (hs : (s.toBitVec.smod 32).toNat = k) : (a >>> s).toInt = a.toInt >>> k := by
  show (a.toBitVec.sshiftRight (s.toBitVec.smod 32).toNat).toInt = _
  rw [hs, BitVec.toInt_sshiftRight]
  rfl
theorem pk_shrN {n : Nat} (h : n < 2 ^ 31) (s : Int32) (k : Nat) (hs : (s.toBitVec.smod 32).toNat = k) : nI n >>> s = nI (n / 2 ^ k) := by
  apply Int32.toInt_inj.mp
  have h2 : n / 2 ^ k ≤ n := Nat.div_le_self _ _
  rw [pk_shr _ _ k hs, nI_toInt h, nI_toInt (by omega), Int.shiftRight_eq_div_pow]
  rfl
theorem s_l : ∀ n, n < 32 → ((nI n &&& 31).toBitVec.smod 32).toNat = n := by decide +kernel
theorem nx_and (a b : Nat) : nI a &&& nI b = nI (a &&& b) := by
  apply Int32.toBitVec_inj.1
  show BitVec.ofNat 32 a &&& BitVec.ofNat 32 b = BitVec.ofNat 32 (a &&& b)
  apply BitVec.eq_of_getLsbD_eq
  intro i hi
  simp [hi]
theorem nx_or (a b : Nat) : nI a ||| nI b = nI (a ||| b) := by
  apply Int32.toBitVec_inj.1
  show BitVec.ofNat 32 a ||| BitVec.ofNat 32 b = BitVec.ofNat 32 (a ||| b)
  apply BitVec.eq_of_getLsbD_eq
  intro i hi
  simp [hi]
theorem nx_xor (a b : Nat) : nI a ^^^ nI b = nI (a ^^^ b) := by
  apply Int32.toBitVec_inj.1
  show BitVec.ofNat 32 a ^^^ BitVec.ofNat 32 b = BitVec.ofNat 32 (a ^^^ b)
  apply BitVec.eq_of_getLsbD_eq
  intro i hi
  simp [hi]
/-- bit p of w, as the class takes it -/
theorem sm_bit {w p : Nat} (hw : w < 2 ^ 31) (hp : p < 32) : nI w >>> (nI p &&& 31) &&& 1 = nI (w / 2 ^ p % 2) := by
  rw [pk_shrN hw _ p (s_l p hp)]
  exact pk_andN (Nat.lt_of_le_of_lt (Nat.div_le_self _ _) (by omega)) 1 (by decide)
theorem sm_shl1 {x p : Nat} (hx : x < 2) (hp : p < 32) : nI x <<< (nI p &&& 31) = nI (x * 2 ^ p) := by
  refine pk_shlN _ p (s_l p hp) ?_
  have h : 2 ^ p ≤ 2 ^ 31 := Nat.pow_le_pow_right (by decide) (by omega)
  have h2 : x * 2 ^ p ≤ 1 * 2 ^ p := Nat.mul_le_mul_right _ (by omega)
  omega
/-! parity, syndrome, encoding, extraction -/
def sm_pa (w : Nat) : Nat → Nat
  | 0 => 0
  | n + 1 => sm_pa w n ^^^ (w / 2 ^ n % 2)
def sm_sy (w : Nat) : Nat → Nat
  | 0 => 0
  | n + 1 => sm_sy w n ^^^ (w / 2 ^ n % 2 * n)
def sm_ck (p : Nat) : Bool := Nat.beq (p &&& (p - 1)) 0
def sm_e1 : Nat → Nat → Nat → Nat → Nat
  | 0, _, w, _ => w
  | k + 1, p, w, l => bif sm_ck p then sm_e1 k (p + 1) w l else sm_e1 k (p + 1) (w ||| l % 2 * 2 ^ p) (l / 2)
def sm_e2 (c : Nat) : Nat → Nat → Nat → Nat
  | 0, _, w => w
  | k + 1, p, w => bif sm_ck p && !Nat.beq (c &&& p) 0 then sm_e2 c k (p + 1) (w ||| 2 ^ p) else sm_e2 c k (p + 1) w
def sm_ex (r : Nat) : Nat → Nat → Nat → Nat → Nat
  | 0, _, v, _ => v
  | k + 1, p, v, t => bif sm_ck p then sm_ex r k (p + 1) v t else sm_ex r k (p + 1) (v ||| r / 2 ^ p % 2 * 2 ^ t) (t + 1)
def sm_w1 (b v : Nat) : Nat := sm_e1 (b - 1) 1 0 v
def sm_w2 (b v : Nat) : Nat := sm_e2 (sm_sy (sm_w1 b v) b) (b - 1) 1 (sm_w1 b v)
def sm_en (b v : Nat) : Nat := sm_w2 b v ||| sm_pa (sm_w2 b v) b
def sm_co (b w : Nat) : Nat := bif Nat.beq (sm_pa w b) 0 then w else w ^^^ 2 ^ sm_sy w b
def sm_de (b w : Nat) : Nat := sm_ex (sm_co b w) (b - 1) 1 0 0
/-! xor goes through parity and syndrome -/
theorem sm_x4 (p q x y : Nat) : (p ^^^ q) ^^^ (x ^^^ y) = (p ^^^ x) ^^^ (q ^^^ y) := by
  rw [Nat.xor_assoc p q, ← Nat.xor_assoc q x y, Nat.xor_comm q x, Nat.xor_assoc x q y, ← Nat.xor_assoc p x]
theorem sm_bx (a b n : Nat) : (a ^^^ b) / 2 ^ n % 2 = (a / 2 ^ n % 2) ^^^ (b / 2 ^ n % 2) := by
  rw [← Nat.toNat_testBit, ← Nat.toNat_testBit, ← Nat.toNat_testBit, Nat.testBit_xor]
  cases a.testBit n <;> cases b.testBit n <;> rfl
theorem sm_bxm (a b n : Nat) : (a ^^^ b) / 2 ^ n % 2 * n = (a / 2 ^ n % 2 * n) ^^^ (b / 2 ^ n % 2 * n) := by
  rw [sm_bx]
  have ha : a / 2 ^ n % 2 = 0 ∨ a / 2 ^ n % 2 = 1 := by omega
  have hb : b / 2 ^ n % 2 = 0 ∨ b / 2 ^ n % 2 = 1 := by omega
  rcases ha with ha | ha <;> rcases hb with hb | hb <;> rw [ha, hb] <;> simp
theorem sm_pa_x (a b : Nat) : ∀ n, sm_pa (a ^^^ b) n = sm_pa a n ^^^ sm_pa b n
  | 0 => by simp [sm_pa]
  | n + 1 => by
    show sm_pa (a ^^^ b) n ^^^ ((a ^^^ b) / 2 ^ n % 2) = (sm_pa a n ^^^ (a / 2 ^ n % 2)) ^^^ (sm_pa b n ^^^ (b / 2 ^ n % 2))
    rw [sm_pa_x a b n, sm_bx, sm_x4]
theorem sm_sy_x (a b : Nat) : ∀ n, sm_sy (a ^^^ b) n = sm_sy a n ^^^ sm_sy b n
  | 0 => by simp [sm_sy]
  | n + 1 => by
    show sm_sy (a ^^^ b) n ^^^ ((a ^^^ b) / 2 ^ n % 2 * n) = (sm_sy a n ^^^ (a / 2 ^ n % 2 * n)) ^^^ (sm_sy b n ^^^ (b / 2 ^ n % 2 * n))
    rw [sm_sy_x a b n, sm_bxm, sm_x4]
theorem sm_pa_2 (w : Nat) : ∀ n, sm_pa w n < 2
  | 0 => by
    show 0 < 2
    decide
  | n + 1 => Nat.xor_lt_two_pow (n := 1) (sm_pa_2 w n) (Nat.mod_lt _ (by decide))
theorem sm_sy_32 (w : Nat) : ∀ n, n ≤ 32 → sm_sy w n < 32
  | 0, _ => by
    show 0 < 32
    decide
  | n + 1, h => Nat.xor_lt_two_pow (n := 5) (sm_sy_32 w n (by omega)) (by
      have hb : w / 2 ^ n % 2 = 0 ∨ w / 2 ^ n % 2 = 1 := by omega
      rcases hb with hb | hb <;> rw [hb] <;> omega)
theorem sm_hit13 : ∀ i, i < 13 → sm_pa (2 ^ i) 13 = 1 ∧ sm_sy (2 ^ i) 13 = i := by decide +kernel
theorem sm_hit22 : ∀ i, i < 22 → sm_pa (2 ^ i) 22 = 1 ∧ sm_sy (2 ^ i) 22 = i := by decide +kernel
/-! every word of the code: no syndrome, even, and it holds its value -/
def sm_ok (b v : Nat) : Bool := Nat.beq (sm_pa (sm_en b v) b) 0 && (Nat.beq (sm_sy (sm_en b v) b) 0 && Nat.beq (sm_ex (sm_en b v) (b - 1) 1 0 0) v)
def sm_row (b h : Nat) : Nat → Bool
  | 0 => true
  | n + 1 => sm_ok b (h + n) && sm_row b h n
theorem sm_row_ok {b h : Nat} : ∀ n, sm_row b h n = true → ∀ j, j < n → sm_ok b (h + j) = true
  | 0, _, j, hj => absurd hj (by omega)
  | n + 1, e, j, hj => by
    have e' : (sm_ok b (h + n) && sm_row b h n) = true := e
    rw [Bool.and_eq_true] at e'
    by_cases q : j = n
    · rw [q]; exact e'.1
    · exact sm_row_ok n e'.2 j (by omega)
theorem sm_row13 : sm_row 13 0 256 = true := by decide +kernel
