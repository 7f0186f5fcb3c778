/-! 06: all words beside the reference's state; the repair in turn; the reference's step -/
section WORDS
variable {oc hl tn : Int32} {cp hc cw sw ob : Nat → Int32} {ce op tg nu sp : Nat → Int32}
def sm_By (x : Int32) : Prop := ∃ n, n < 256 ∧ x = nI n
def sm_St (w o t n s : Int32) : Prop := ∃ on tn nn wn sn : Nat, on < 14 ∧ tn < 4 ∧ nn < 256 ∧ o = nI on ∧ t = nI tn ∧ n = nI nn ∧ w = nI wn ∧ s = nI sn ∧ sm_Wd 22 (on * 1024 + tn * 256 + nn) wn sn
def sm_Ws (cw sw ce op tg nu sp : Nat → Int32) : Prop := (∀ c, c < 16 → sm_W 13 (cw c) (ce c) (sp (32 + c))) ∧ (∀ q, q < 32 → sm_St (sw q) (op q) (tg q) (nu q) (sp q))
theorem sm_uu (f : Nat → Int32) (k : Nat) (x y : Int32) : upd (upd f k x) k y = upd f k y := by
  funext j
  unfold upd
  by_cases h : j = k
  · rw [if_pos h, if_pos h]
  · rw [if_neg h, if_neg h, if_neg h]
theorem sm_ue {f : Nat → Int32} {k : Nat} {x : Int32} (h : f k = x) : upd f k x = f := by
  funext j
  unfold upd
  by_cases z : j = k
  · rw [if_pos z, z, h]
  · rw [if_neg z]
theorem sm_G22 {on t nn : Nat} (h1 : on < 14) (h2 : t < 4) (h3 : nn < 256) : sm_Gd 22 (on * 1024 + t * 256 + nn) := Or.inr ⟨rfl, by omega⟩
theorem ws_set (H : sm_Ws cw sw ce op tg nu sp) {q on t nn : Nat} (hq : q < 32) (h1 : on < 14) (h2 : t < 4) (h3 : nn < 256) : sm_Ws cw (upd sw q (nI (sm_en 22 (on * 1024 + t * 256 + nn)))) ce (upd op q (nI on)) (upd tg q (nI t)) (upd nu q (nI nn)) (upd sp q 0) := by
  refine ⟨fun c hc => ?_, fun i hi => ?_⟩
  · rw [pk_un (by omega)]
    exact H.1 c hc
  · by_cases z : i = q
    · subst z
      rw [pk_us, pk_us, pk_us, pk_us, pk_us]
      exact ⟨on, t, nn, _, 0, h1, h2, h3, rfl, rfl, rfl, rfl, rfl, sm_Wd_0 (sm_G22 h1 h2 h3)⟩
    · rw [pk_un z, pk_un z, pk_un z, pk_un z, pk_un z]
      exact H.2 i hi
theorem ws_step (H : sm_Ws cw sw ce op tg nu sp) {q on t nn : Nat} (hq : q < 32) (h1 : on < 14) (h2 : t < 4) (h3 : nn < 256) (e1 : op q = nI on) (e2 : tg q = nI t) (e3 : nu q = nI nn) : sm_Ws cw (upd sw q (nI (sm_en 22 (on * 1024 + t * 256 + nn)))) ce op tg nu (upd sp q 0) := by
  have := ws_set H hq h1 h2 h3
  rwa [sm_ue e1, sm_ue e2, sm_ue e3] at this
theorem ws_store (H : sm_Ws cw sw ce op tg nu sp) {c v : Nat} (hc : c < 16) (hv : v < 256) : sm_Ws (upd cw c (nI (sm_en 13 v))) sw (upd ce c (nI v)) op tg nu (upd sp (32 + c) 0) := by
  refine ⟨fun i hi => ?_, fun i hi => ?_⟩
  · by_cases z : i = c
    · subst z
      rw [pk_us, pk_us, pk_us]
      exact ⟨_, v, 0, rfl, rfl, rfl, sm_Wd_0 (Or.inl ⟨rfl, hv⟩)⟩
    · rw [pk_un z, pk_un z, pk_un (by omega)]
      exact H.1 i hi
  · rw [pk_un (by omega)]
    exact H.2 i hi
theorem ws_cell (H : sm_Ws cw sw ce op tg nu sp) {c v : Nat} (hc : c < 16) (hv : v < 256) (e : ce c = nI v) : sm_Ws (upd cw c (nI (sm_en 13 v))) sw ce op tg nu (upd sp (32 + c) 0) := by
  have := ws_store H hc hv
  rwa [sm_ue e] at this
theorem sm_Wv {v w s : Nat} (h : sm_Wd 13 v w s) : v < 256 := by
  rcases h.1 with h | h
  · exact h.2
  · exact absurd h.1 (by decide)
theorem xr_41 (post : SX → Prop) {d : Nat} (h : post (oc, hl, nI ((d + 1) % 48), cp, hc, cw, sw, ob)) : wX_repairInTurn_41 post oc hl (nI (d % 48)) cp hc cw sw ob := by
  refine ⟨by decide, nm_r (e' := nI ((d + 1) % 48)) ?_ h⟩
  rw [nI_1]
  have e := pk_rem (a := d % 48 + 1) (d := 48) (by omega) (by decide) (by decide)
  exact e.trans (congrArg nI (by omega))
theorem ws_turn (H : sm_Ws cw sw ce op tg nu sp) (d : Nat) : ∃ cw' sw', sm_Ws cw' sw' ce op tg nu (upd sp (d % 48) 0) ∧ ∀ (post : SX → Prop) (oc hl : Int32) (cp hc ob : Nat → Int32), post (oc, hl, nI ((d + 1) % 48), cp, hc, cw', sw', ob) → wpX_repairInTurn post (oc, hl, nI (d % 48), cp, hc, cw, sw, ob) := by
  by_cases z : d % 48 < 32
  · obtain ⟨on, t, nn, wn, sn, h1, h2, h3, e1, e2, e3, e4, e5, W⟩ := H.2 (d % 48) z
    refine ⟨cw, _, ws_step H z h1 h2 h3 e1 e2 e3, fun post oc hl cp hc ob h => ?_⟩
    refine br_f (nI_ge (b := 32) z (by decide)) ?_
    refine xr_step _ z e4 W ?_
    exact xr_41 post h
  · obtain ⟨wn, vn, sn, e1, e2, e3, W⟩ := H.1 (d % 48 - 32) (by omega)
    have w := ws_cell H (c := d % 48 - 32) (by omega) (sm_Wv W) e2
    rw [show 32 + (d % 48 - 32) = d % 48 by omega] at w
    refine ⟨_, sw, w, fun post oc hl cp hc ob h => ?_⟩
    have es : nI (d % 48) - 32 = nI (d % 48 - 32) := pk_sub (b := 32) (by omega)
    refine br_t (nI_le (a := 32) (by omega) (by omega)) ?_
    rw [es]
    refine xr_cell _ (by omega) e1 W ?_
    exact xr_41 post h
end WORDS
section YSTEP
variable {a sh hl dn : Int32} {rg ce op tg nu pp sp ht : Nat → Int32}
theorem yf_L (post : SY → Prop) (h : post (a, sh, hl, dn, rg, ce, op, tg, nu, pp, sp, sm_hc 6 ht)) : ∀ k i n, i + k = 6 → k < n → wY_forgetHits_2 post a sh hl dn n (nI i) rg ce op tg nu pp sp (sm_hc i ht) := by
  intro k
  induction k with
  | zero =>
    intro i n e hn
    obtain ⟨m, rfl⟩ : ∃ m, n = m + 1 := ⟨n - 1, by omega⟩
    obtain rfl : i = 6 := by omega
    exact br_t (by decide) h
  | succ k ih =>
    intro i n e hn
    obtain ⟨m, rfl⟩ : ∃ m, n = m + 1 := ⟨n - 1, by omega⟩
    refine br_f (nI_ge (b := 6) (by omega) (by decide)) ⟨vp_in_nI (by omega) (by decide), nm_r ?_ (nm_r (nI_1 i) (ih (i + 1) m (by omega) (by omega)))⟩
    rw [nI_clamp (by omega), xv_hc]
theorem yf_forget (post : SY → Prop) (h : post (a, sh, hl, dn, rg, ce, op, tg, nu, pp, sp, sm_hc 6 ht)) : wpY_forgetHits post (a, sh, hl, dn, rg, ce, op, tg, nu, pp, sp, ht) := by
  have i := yf_L post h 6 0 7 (by omega) (by omega)
  rw [xv_hc0] at i
  exact ⟨7, i⟩
theorem y_b0 : vp_nar .boolean 0 = 0 := by decide
theorem y_b1 : vp_nar .boolean 1 = 1 := by decide
theorem yo_227 (post : SY → Prop) (z0 : Int32) {d : Nat} (hd : d < 2 ^ 30) (h : post (z0, sh, hl, nI (d + 1), rg, ce, op, tg, nu, pp, upd sp (d % 48) 0, sm_hc 6 ht)) : wY_once_227 post z0 a sh hl (nI d) rg ce op tg nu pp sp ht := by
  have e : nI d - nI d / 48 * 48 = nI (d % 48) := pk_rem (a := d) (d := 48) (by omega) (by decide) (by decide)
  refine ⟨by decide, ?_, nm_r (e' := upd sp (d % 48) 0) ?_ (nm_r (nI_1 d) ?_)⟩
  · rw [e]
    exact vp_in_nI (by omega) (by decide)
  · rw [e, nI_clamp (by omega), y_b0]
  · exact yf_forget _ h
theorem yo_210 (post : SY → Prop) (x5 : Int32) {d : Nat} (hd : d < 2 ^ 30) (h : post (x5, sh, 0, nI (d + 1), rg, ce, op, tg, nu, pp, upd sp (d % 48) 0, sm_hc 6 ht)) : wY_once_210 post x5 a sh 0 (nI d) rg ce op tg nu pp sp ht :=
  br_t rfl (yo_227 post x5 hd h)
theorem yo_210h (post : SY → Prop) (x5 : Int32) {d : Nat} (hd : d < 2 ^ 30) (h : post (a, sh, 1, nI (d + 1), rg, ce, op, tg, nu, pp, upd sp (d % 48) 0, sm_hc 6 ht)) : wY_once_210 post x5 a sh 1 (nI d) rg ce op tg nu pp sp ht :=
  br_f (by decide) (yo_227 post a hd h)
theorem yo_rd (post : SY → Prop) {c t : Nat} (hc : c < 16) (ht4 : t < 4) (h : post (a, sh, hl, dn, upd rg t (ce c), ce, op, tg, nu, pp, upd sp (32 + c) 0, ht)) : wpY_useCell post (a, sh, hl, dn, rg, ce, op, tg, nu, pp, sp, ht) (nI c) (nI t) 0 := by
  have e : 32 + nI c = nI (32 + c) := nI_add 32 c
  refine ⟨?_, nm_r (e' := upd sp (32 + c) 0) ?_ (br_t rfl ⟨vp_in_nI hc (by decide), vp_in_nI ht4 (by decide), nm_r (e' := upd rg t (ce c)) ?_ h⟩)⟩
  · rw [e]
    exact vp_in_nI (by omega) (by decide)
  · rw [e, nI_clamp (by omega), y_b0]
  · rw [nI_clamp (by omega), nI_clamp (by omega)]
theorem yo_wr (post : SY → Prop) {c t : Nat} (hc : c < 16) (ht4 : t < 4) (h : post (a, sh, hl, dn, rg, upd ce c (rg t), op, tg, nu, pp, upd sp (32 + c) 0, ht)) : wpY_useCell post (a, sh, hl, dn, rg, ce, op, tg, nu, pp, sp, ht) (nI c) (nI t) 1 := by
  have e : 32 + nI c = nI (32 + c) := nI_add 32 c
  refine ⟨?_, nm_r (e' := upd sp (32 + c) 0) ?_ (br_f (by decide) ⟨vp_in_nI ht4 (by decide), vp_in_nI hc (by decide), nm_r (e' := upd ce c (rg t)) ?_ h⟩)⟩
  · rw [e]
    exact vp_in_nI (by omega) (by decide)
  · rw [e, nI_clamp (by omega), y_b0]
  · rw [nI_clamp (by omega), nI_clamp (by omega)]
end YSTEP
