/-! 03: the class's code methods against the pure ones -/
theorem xw_par (post : Int32 → Prop) {w b : Nat} (hw : w < 2 ^ 31) (hb : b ≤ 31) (h : post (nI (sm_pa w b))) : ∀ k p n, p + k = b → k < n → wX_parity_4 post (nI w) (nI b) n (nI (sm_pa w p)) (nI p) := by
  intro k
  induction k with
  | zero =>
    intro p n e hn
    obtain ⟨m, rfl⟩ : ∃ m, n = m + 1 := ⟨n - 1, by omega⟩
    obtain rfl : p = b := by omega
    exact br_t (nI_le (Nat.le_refl _) (by omega)) h
  | succ k ih =>
    intro p n e hn
    obtain ⟨m, rfl⟩ : ∃ m, n = m + 1 := ⟨n - 1, by omega⟩
    refine br_f (nI_ge (by omega) (by omega)) (nm_r (e' := nI (sm_pa w (p + 1))) ?_ (nm_r (nI_1 p) (ih (p + 1) m (by omega) (by omega))))
    rw [sm_bit hw (by omega), nx_xor]
    rfl
theorem xw_parity (post : Int32 → Prop) {w b : Nat} (hw : w < 2 ^ 31) (hb : b ≤ 31) (h : post (nI (sm_pa w b))) : wpX_parity post (nI w) (nI b) := ⟨b + 1, xw_par post hw hb h b 0 (b + 1) (by omega) (by omega)⟩
theorem xw_syn (post : Int32 → Prop) {w b : Nat} (hw : w < 2 ^ 31) (hb : b ≤ 31) (h : post (nI (sm_sy w b))) : ∀ k p n, p + k = b → k < n → wX_syndrome_4 post (nI w) (nI b) n (nI (sm_sy w p)) (nI p) := by
  intro k
  induction k with
  | zero =>
    intro p n e hn
    obtain ⟨m, rfl⟩ : ∃ m, n = m + 1 := ⟨n - 1, by omega⟩
    obtain rfl : p = b := by omega
    exact br_t (nI_le (Nat.le_refl _) (by omega)) h
  | succ k ih =>
    intro p n e hn
    obtain ⟨m, rfl⟩ : ∃ m, n = m + 1 := ⟨n - 1, by omega⟩
    have i := ih (p + 1) m (by omega) (by omega)
    have q : sm_sy w (p + 1) = sm_sy w p ^^^ (w / 2 ^ p % 2 * p) := rfl
    have hbit := sm_bit hw (p := p) (by omega)
    have h2 : w / 2 ^ p % 2 = 0 ∨ w / 2 ^ p % 2 = 1 := by omega
    rcases h2 with z | z
    · rw [z, Nat.zero_mul, Nat.xor_zero] at q
      rw [q] at i
      exact br_f (nI_ge (by omega) (by omega)) (br_t (by rw [hbit, z]; rfl) (nm_r (nI_1 p) i))
    · rw [z, Nat.one_mul] at q
      refine br_f (nI_ge (by omega) (by omega)) (br_f (by rw [hbit, z]; decide) (nm_r (e' := nI (sm_sy w (p + 1))) ?_ (nm_r (nI_1 p) i)))
      rw [q, nx_xor]
theorem xw_sy1 (w : Nat) : sm_sy w 1 = 0 := by
  show 0 ^^^ (w / 2 ^ 0 % 2 * 0) = 0
  rw [Nat.mul_zero]
  rfl
theorem xw_syndrome (post : Int32 → Prop) {w b : Nat} (hw : w < 2 ^ 31) (h1 : 1 ≤ b) (hb : b ≤ 31) (h : post (nI (sm_sy w b))) : wpX_syndrome post (nI w) (nI b) := by
  have i := xw_syn post hw hb h (b - 1) 1 (b + 1) (by omega) (by omega)
  rw [xw_sy1] at i
  exact ⟨b + 1, i⟩
theorem xw_chk (post : Int32 → Prop) {p : Nat} (h1 : 1 ≤ p) (hp : p < 2 ^ 31) (ht : sm_ck p = true → post 1) (hf : sm_ck p = false → post 0) : wpX_isCheckPosition post (nI p) := by
  have e : (nI p &&& (nI p - 1) = 0) ↔ sm_ck p = true := by
    obtain ⟨q, rfl⟩ : ∃ q, p = q + 1 := ⟨p - 1, by omega⟩
    rw [nI_pred, nx_and, ← nI_0, nI_eq (Nat.lt_of_le_of_lt Nat.and_le_left hp) (by decide)]
    unfold sm_ck
    constructor
    · intro z
      rw [Nat.add_sub_cancel, z]
      rfl
    · intro z
      exact Nat.eq_of_beq_eq_true z
  refine ⟨fun z => ht (e.mp z), fun z => hf ?_⟩
  cases hc : sm_ck p
  · rfl
  · exact absurd (e.mpr hc) z
theorem xw_1 : ¬ (1 : Int32) = 0 := by decide
theorem xw_e2 (post : Int32 → Prop) {b c : Nat} (hb : b = 13 ∨ b = 22) (hc : c < 2 ^ 31) : ∀ k p w n, p + k = b → 1 ≤ p → k < n → w < 2 ^ b → post (nI (sm_e2 c k p w ||| sm_pa (sm_e2 c k p w) b)) → wX_encoded_50 post (nI b) (nI c) n (nI w) (nI p) := by
  intro k
  induction k with
  | zero =>
    intro p w n e h1 hn hw h
    obtain ⟨m, rfl⟩ : ∃ m, n = m + 1 := ⟨n - 1, by omega⟩
    obtain rfl : p = b := by omega
    refine br_t (nI_le (Nat.le_refl _) (by omega)) (xw_parity _ (sm_b31 hb hw) (by omega) ?_)
    show post (nI w ||| nI (sm_pa w p))
    rw [nx_or]
    exact h
  | succ k ih =>
    intro p w n e h1 hn hw h
    obtain ⟨m, rfl⟩ : ∃ m, n = m + 1 := ⟨n - 1, by omega⟩
    have q : sm_e2 c (k + 1) p w = bif sm_ck p && !Nat.beq (c &&& p) 0 then sm_e2 c k (p + 1) (w ||| 2 ^ p) else sm_e2 c k (p + 1) w := rfl
    refine br_f (nI_ge (by omega) (by omega)) (xw_chk _ h1 (by omega) (fun ck => br_f xw_1 ?_) (fun ck => br_t rfl (nm_r (nI_1 p) (ih (p + 1) w m (by omega) (by omega) (by omega) hw ?_))))
    · cases z : Nat.beq (c &&& p) 0
      · rw [ck, z] at q
        have q' : sm_e2 c (k + 1) p w = sm_e2 c k (p + 1) (w ||| 2 ^ p) := q
        rw [q'] at h
        have z' : ¬ nI c &&& nI p = 0 := by
          rw [nx_and, ← nI_0, nI_eq (Nat.lt_of_le_of_lt Nat.and_le_left hc) (by decide)]
          exact Nat.ne_of_beq_eq_false z
        refine br_f z' (nm_r (e' := nI (w ||| 2 ^ p)) ?_ (nm_r (nI_1 p) (ih (p + 1) _ m (by omega) (by omega) (by omega) (Nat.or_lt_two_pow hw (Nat.pow_lt_pow_right (by decide) (by omega))) h)))
        rw [show (1 : Int32) <<< (nI p &&& 31) = nI (1 * 2 ^ p) from sm_shl1 (by decide) (by omega), Nat.one_mul, nx_or]
      · rw [ck, z] at q
        have q' : sm_e2 c (k + 1) p w = sm_e2 c k (p + 1) w := q
        rw [q'] at h
        have z' : nI c &&& nI p = 0 := by
          rw [nx_and, Nat.eq_of_beq_eq_true z]
          rfl
        exact br_t z' (nm_r (nI_1 p) (ih (p + 1) w m (by omega) (by omega) (by omega) hw h))
    · rw [ck] at q
      have q' : sm_e2 c (k + 1) p w = sm_e2 c k (p + 1) w := q
      rw [q'] at h
      exact h
theorem xw_e1 (post : Int32 → Prop) {b : Nat} (hb : b = 13 ∨ b = 22) : ∀ k p w l n, p + k = b → 1 ≤ p → k < n → w < 2 ^ b → l < 2 ^ 31 → post (nI (sm_e2 (sm_sy (sm_e1 k p w l) b) (b - 1) 1 (sm_e1 k p w l) ||| sm_pa (sm_e2 (sm_sy (sm_e1 k p w l) b) (b - 1) 1 (sm_e1 k p w l)) b)) → wX_encoded_7 post (nI b) n (nI w) (nI l) (nI p) := by
  intro k
  induction k with
  | zero =>
    intro p w l n e h1 hn hw hl h
    obtain ⟨m, rfl⟩ : ∃ m, n = m + 1 := ⟨n - 1, by omega⟩
    obtain rfl : p = b := by omega
    have hs := sm_sy_32 w p (by omega)
    exact br_t (nI_le (Nat.le_refl _) (by omega)) (xw_syndrome _ (sm_b31 hb hw) h1 (by omega) ⟨p + 1, xw_e2 post hb (by omega) (p - 1) 1 w (p + 1) (by omega) (by omega) (by omega) hw h⟩)
  | succ k ih =>
    intro p w l n e h1 hn hw hl h
    obtain ⟨m, rfl⟩ : ∃ m, n = m + 1 := ⟨n - 1, by omega⟩
    have q : sm_e1 (k + 1) p w l = bif sm_ck p then sm_e1 k (p + 1) w l else sm_e1 k (p + 1) (w ||| l % 2 * 2 ^ p) (l / 2) := rfl
    refine br_f (nI_ge (by omega) (by omega)) (xw_chk _ h1 (by omega) (fun ck => br_f xw_1 (nm_r (nI_1 p) (ih (p + 1) w l m (by omega) (by omega) (by omega) hw hl ?_))) (fun ck => br_t rfl (nm_r (e' := nI (w ||| l % 2 * 2 ^ p)) ?_ (nm_r (e' := nI (l / 2)) ?_ (nm_r (nI_1 p) (ih (p + 1) _ _ m (by omega) (by omega) (by omega) (Nat.or_lt_two_pow hw (sm_lt1 (Nat.mod_lt _ (by decide)) (by omega))) (by omega) ?_))))))
    · rw [ck] at q
      have q' : sm_e1 (k + 1) p w l = sm_e1 k (p + 1) w l := q
      rw [q'] at h
      exact h
    · rw [show nI l &&& 1 = nI (l % 2) from pk_andN (by omega) 1 (by decide), sm_shl1 (Nat.mod_lt _ (by decide)) (by omega), nx_or]
    · exact pk_shrN hl _ 1 (by decide)
    · rw [ck] at q
      have q' : sm_e1 (k + 1) p w l = sm_e1 k (p + 1) (w ||| l % 2 * 2 ^ p) (l / 2) := q
      rw [q'] at h
      exact h
theorem xw_encoded (post : Int32 → Prop) {b v : Nat} (hb : b = 13 ∨ b = 22) (hv : v < 2 ^ 31) (h : post (nI (sm_en b v))) : wpX_encoded post (nI v) (nI b) :=
  ⟨b + 1, xw_e1 post hb (b - 1) 1 0 v (b + 1) (by omega) (by omega) (by omega) (Nat.two_pow_pos b) hv h⟩
theorem xw_corrected (post : Int32 → Prop) {b w : Nat} (hb : b = 13 ∨ b = 22) (hw : w < 2 ^ 31) (h : post (nI (sm_co b w))) : wpX_corrected post (nI w) (nI b) := by
  unfold wpX_corrected
  refine xw_parity _ hw (by omega) ?_
  have h2 := sm_pa_2 w b
  have h3 : sm_pa w b = 0 ∨ sm_pa w b = 1 := by omega
  rcases h3 with z | z
  · have e : sm_co b w = w := by
      unfold sm_co
      rw [z]
      rfl
    rw [e] at h
    exact br_t (by rw [z]; rfl) h
  · have e : sm_co b w = w ^^^ 2 ^ sm_sy w b := by
      unfold sm_co
      rw [z]
      rfl
    rw [e] at h
    refine br_f (by rw [z]; decide) (xw_syndrome _ hw (by omega) (by omega) ?_)
    show post (nI w ^^^ ((1 : Int32) <<< (nI (sm_sy w b) &&& 31)))
    rw [show (1 : Int32) <<< (nI (sm_sy w b) &&& 31) = nI (1 * 2 ^ sm_sy w b) from sm_shl1 (by decide) (sm_sy_32 w b (by omega)), Nat.one_mul, nx_xor]
    exact h
theorem xw_ex (post : Int32 → Prop) {b r : Nat} (hb : b = 13 ∨ b = 22) (hr : r < 2 ^ 31) : ∀ k p v t n, p + k = b → 1 ≤ p → t ≤ p → k < n → post (nI (sm_ex r k p v t)) → wX_decoded_14 post (nI b) (nI r) n (nI v) (nI t) (nI p) := by
  intro k
  induction k with
  | zero =>
    intro p v t n e h1 ht hn h
    obtain ⟨m, rfl⟩ : ∃ m, n = m + 1 := ⟨n - 1, by omega⟩
    obtain rfl : p = b := by omega
    exact br_t (nI_le (Nat.le_refl _) (by omega)) h
  | succ k ih =>
    intro p v t n e h1 ht hn h
    obtain ⟨m, rfl⟩ : ∃ m, n = m + 1 := ⟨n - 1, by omega⟩
    have q : sm_ex r (k + 1) p v t = bif sm_ck p then sm_ex r k (p + 1) v t else sm_ex r k (p + 1) (v ||| r / 2 ^ p % 2 * 2 ^ t) (t + 1) := rfl
    refine br_f (nI_ge (by omega) (by omega)) (xw_chk _ h1 (by omega) (fun ck => br_f xw_1 (nm_r (nI_1 p) (ih (p + 1) v t m (by omega) (by omega) (by omega) (by omega) ?_))) (fun ck => br_t rfl (nm_r (e' := nI (v ||| r / 2 ^ p % 2 * 2 ^ t)) ?_ (nm_r (nI_1 t) (nm_r (nI_1 p) (ih (p + 1) _ (t + 1) m (by omega) (by omega) (by omega) (by omega) ?_))))))
    · rw [ck] at q
      have q' : sm_ex r (k + 1) p v t = sm_ex r k (p + 1) v t := q
      rw [q'] at h
      exact h
    · rw [sm_bit hr (by omega), sm_shl1 (Nat.mod_lt _ (by decide)) (by omega), nx_or]
    · rw [ck] at q
      have q' : sm_ex r (k + 1) p v t = sm_ex r k (p + 1) (v ||| r / 2 ^ p % 2 * 2 ^ t) (t + 1) := q
      rw [q'] at h
      exact h
theorem xw_decoded (post : Int32 → Prop) {b w : Nat} (hb : b = 13 ∨ b = 22) (hw : w < 2 ^ 31) (hc : sm_co b w < 2 ^ 31) (h : post (nI (sm_de b w))) : wpX_decoded post (nI w) (nI b) :=
  xw_corrected _ hb hw ⟨b + 1, xw_ex post hb hc (b - 1) 1 0 0 (b + 1) (by omega) (by omega) (by omega) (by omega) h⟩
/-! of words that hold a value -/
theorem xw_parW (post : Int32 → Prop) {b v w s : Nat} (W : sm_Wd b v w s) (h : post (nI s)) : wpX_parity post (nI w) (nI b) := by
  have hb := sm_Gd_b W.1
  refine xw_parity post (sm_b31 hb (sm_Wd_lt W)) (by omega) ?_
  rw [sm_Wd_pa W]
  exact h
theorem xw_corW (post : Int32 → Prop) {b v w s : Nat} (W : sm_Wd b v w s) (h : post (nI (sm_en b v))) : wpX_corrected post (nI w) (nI b) := by
  have hb := sm_Gd_b W.1
  refine xw_corrected post hb (sm_b31 hb (sm_Wd_lt W)) ?_
  rw [sm_Wd_co W]
  exact h
theorem xw_decW (post : Int32 → Prop) {b v w s : Nat} (W : sm_Wd b v w s) (h : post (nI v)) : wpX_decoded post (nI w) (nI b) := by
  have hb := sm_Gd_b W.1
  refine xw_decoded post hb (sm_b31 hb (sm_Wd_lt W)) ?_ ?_
  · rw [sm_Wd_co W]
    exact sm_b31 hb (sm_en_lt v hb)
  · rw [sm_Wd_de W]
    exact h
