/-! 09: a step of both, by operation -/
section STEPS
variable {p o d t nn wn sn : Nat} {cp hc cw sw ob rg ce op tg nu sp ht : Nat → Int32}
theorem sp_stop (F : sm_F p o d 0 cp hc cw sw rg ce op tg nu sp ht) (hd : d + 1 < 2 ^ 30) (e1 : op p = nI 0) (e2 : tg p = nI t) (e3 : nu p = nI nn) (h2 : t < 4) (h3 : nn < 256) (ew : sw p = nI wn) (W : sm_Wd 22 (0 * 1024 + t * 256 + nn) wn sn) : sm_Ends d (nI o, 0, nI (d % 48), cp, hc, cw, sw, ob) (nI p, nI o, 0, nI d, rg, ce, op, tg, nu, ob, sp, ht) := by
  obtain ⟨hp, ho, hd', _, C, _, B, S⟩ := F
  obtain ⟨cw2, sw2, w, X⟩ := st_n (oc := nI o) (hl := 0) (ob := ob) (d := d) (wv := rg t) hp C (by decide) h2 h3 ew W (sc_none (by decide) (by decide))
    (fun post' h => by
      repeat (first | refine br_t (by decide) ?_ | refine br_f (by decide) ?_)
      exact h) (fun post' h => xf_stop post' hp h) (ws_step S hp (by decide) h2 h3 e1 e2 e3)
  exact ⟨_, _, X, fun post h => yo_stop post hp hd' e1 e2 e3 h2 h3 h, p, o, 1, _, _, cw2, sw2, ob, rg, ce, op, tg, nu, _, _, rfl, rfl, hp, ho, hd, Or.inr rfl, st_C4 st_C5, sm_Z_e (sm_Z_u sm_Z_5), B, w⟩
theorem sp_calc {k : Nat} (F : sm_F p o d 0 cp hc cw sw rg ce op tg nu sp ht) (hd : d + 1 < 2 ^ 30) (hk : k = 1 ∨ k = 4 ∨ k = 5 ∨ k = 6 ∨ k = 7 ∨ k = 8) (e1 : op p = nI k) (e2 : tg p = nI t) (e3 : nu p = nI nn) (h2 : t < 4) (h3 : nn < 256) (ew : sw p = nI wn) (W : sm_Wd 22 (k * 1024 + t * 256 + nn) wn sn) : sm_Ends d (nI o, 0, nI (d % 48), cp, hc, cw, sw, ob) (nI p, nI o, 0, nI d, rg, ce, op, tg, nu, ob, sp, ht) := by
  obtain ⟨hp, ho, hd', _, C, _, B, S⟩ := F
  obtain ⟨cw2, sw2, w, X⟩ := st_n (oc := nI o) (hl := 0) (ob := ob) (d := d) hp C (by omega) h2 h3 ew W (sc_none (by omega) (by omega))
    (sw_calc (B t h2) hk) (fun post' h => xf_reg post' hp h2 (by omega) h) (ws_step S hp (by omega) h2 h3 e1 e2 e3)
  exact ⟨_, _, X, fun post h => yo_calc post hp hd' e1 e2 e3 h2 h3 hk h, (p + 1) % 32, o, 0, _, _, cw2, sw2, ob, _, ce, op, tg, nu, _, _, rfl, rfl, Nat.mod_lt _ (by decide), ho, hd, Or.inl rfl, st_C4 (st_Cr h2 st_C5), sm_Z_e (sm_Z_u (sm_Z_u sm_Z_5)), st_By B (by_calc h3 (B t h2) (B (nn % 4) (Nat.mod_lt _ (by decide)))), w⟩
theorem sp_load (F : sm_F p o d 0 cp hc cw sw rg ce op tg nu sp ht) (hd : d + 1 < 2 ^ 30) (e1 : op p = nI 2) (e2 : tg p = nI t) (e3 : nu p = nI nn) (h2 : t < 4) (h3 : nn < 256) (ew : sw p = nI wn) (W : sm_Wd 22 (2 * 1024 + t * 256 + nn) wn sn) : sm_Ends d (nI o, 0, nI (d % 48), cp, hc, cw, sw, ob) (nI p, nI o, 0, nI d, rg, ce, op, tg, nu, ob, sp, ht) := by
  obtain ⟨hp, ho, hd', _, C, _, B, S⟩ := F
  have hc16 : nn % 16 < 16 := Nat.mod_lt _ (by decide)
  obtain ⟨cwn, cv, csn, ec, ee, es, Wc⟩ := S.1 (nn % 16) hc16
  obtain ⟨cw2, sw2, w, X⟩ := st_c (oc := nI o) (hl := 0) (ob := ob) (d := d) (wv := nI cv) hp C (by decide) h2 h3 ew W hc16 ec Wc (sc_n (Or.inl rfl) h3)
    (fun post' h => by
      repeat (first | refine br_t (by decide) ?_ | refine br_f (by decide) ?_)
      exact h) (fun post' h => xf_reg post' hp h2 (by decide) h) (ws_cell (ws_step S hp (by decide) h2 h3 e1 e2 e3) hc16 (sm_Wv Wc) ee)
  refine ⟨_, _, X, fun post h => yo_load post hp hd' e1 e2 e3 h2 h3 h, (p + 1) % 32, o, 0, _, _, cw2, sw2, ob, upd rg t (nI cv), ce, op, tg, nu, _, _, rfl, by rw [ee], Nat.mod_lt _ (by decide), ho, hd, Or.inl rfl, st_C4 (st_Cr h2 st_C5), sm_Z_e (sm_Z_u (sm_Z_u sm_Z_5)), st_By B (by_n (sm_Wv Wc)), w⟩
theorem sp_fetch (F : sm_F p o d 0 cp hc cw sw rg ce op tg nu sp ht) (hd : d + 1 < 2 ^ 30) (e1 : op p = nI 12) (e2 : tg p = nI t) (e3 : nu p = nI nn) (h2 : t < 4) (h3 : nn < 256) (ew : sw p = nI wn) (W : sm_Wd 22 (12 * 1024 + t * 256 + nn) wn sn) : sm_Ends d (nI o, 0, nI (d % 48), cp, hc, cw, sw, ob) (nI p, nI o, 0, nI d, rg, ce, op, tg, nu, ob, sp, ht) := by
  obtain ⟨hp, ho, hd', _, C, _, B, S⟩ := F
  obtain ⟨s, hs, er⟩ := B (nn % 4) (Nat.mod_lt _ (by decide))
  have hc16 : s % 16 < 16 := Nat.mod_lt _ (by decide)
  obtain ⟨cwn, cv, csn, ec, ee, es, Wc⟩ := S.1 (s % 16) hc16
  obtain ⟨cw2, sw2, w, X⟩ := st_c (oc := nI o) (hl := 0) (ob := ob) (d := d) (wv := nI cv) hp C (by decide) h2 h3 ew W hc16 ec Wc (fun post' h => by
      rw [er]
      exact sc_s (Or.inl rfl) hs post' h)
    (fun post' h => by
      repeat (first | refine br_t (by decide) ?_ | refine br_f (by decide) ?_)
      exact h) (fun post' h => xf_reg post' hp h2 (by decide) h) (ws_cell (ws_step S hp (by decide) h2 h3 e1 e2 e3) hc16 (sm_Wv Wc) ee)
  refine ⟨_, _, X, fun post h => yo_fetch post hp hd' e1 e2 e3 h2 h3 hs er h, (p + 1) % 32, o, 0, _, _, cw2, sw2, ob, upd rg t (nI cv), ce, op, tg, nu, _, _, rfl, by rw [ee], Nat.mod_lt _ (by decide), ho, hd, Or.inl rfl, st_C4 (st_Cr h2 st_C5), sm_Z_e (sm_Z_u (sm_Z_u sm_Z_5)), st_By B (by_n (sm_Wv Wc)), w⟩
theorem sp_store (F : sm_F p o d 0 cp hc cw sw rg ce op tg nu sp ht) (hd : d + 1 < 2 ^ 30) (e1 : op p = nI 3) (e2 : tg p = nI t) (e3 : nu p = nI nn) (h2 : t < 4) (h3 : nn < 256) (ew : sw p = nI wn) (W : sm_Wd 22 (3 * 1024 + t * 256 + nn) wn sn) : sm_Ends d (nI o, 0, nI (d % 48), cp, hc, cw, sw, ob) (nI p, nI o, 0, nI d, rg, ce, op, tg, nu, ob, sp, ht) := by
  obtain ⟨hp, ho, hd', _, C, _, B, S⟩ := F
  obtain ⟨v, hv, ev⟩ := B t h2
  have hc16 : nn % 16 < 16 := Nat.mod_lt _ (by decide)
  obtain ⟨cwn, cv, csn, ec, ee, es, Wc⟩ := S.1 (nn % 16) hc16
  have Hw := ws_store (ws_cell (ws_step S hp (by decide) h2 h3 e1 e2 e3) hc16 (sm_Wv Wc) ee) hc16 hv
  rw [sm_uu (upd sp p 0)] at Hw
  obtain ⟨cw2, sw2, w, X⟩ := st_c (oc := nI o) (hl := 0) (ob := ob) (d := d) (wv := nI v) hp C (by decide) h2 h3 ew W hc16 ec Wc (sc_n (Or.inr rfl) h3)
    (fun post' h => by
      repeat (first | refine br_t (by decide) ?_ | refine br_f (by decide) ?_)
      rw [ev]
      exact h) (fun post' h => xf_store post' hp (Or.inl rfl) hc16 (by omega) h) Hw
  refine ⟨_, _, X, fun post h => yo_store post hp hd' e1 e2 e3 h2 h3 h, (p + 1) % 32, o, 0, _, _, cw2, sw2, ob, rg, upd ce (nn % 16) (nI v), op, tg, nu, _, _, rfl, by rw [ev], Nat.mod_lt _ (by decide), ho, hd, Or.inl rfl, st_C4 st_C5, sm_Z_e (sm_Z_u sm_Z_5), B, w⟩
theorem sp_keep (F : sm_F p o d 0 cp hc cw sw rg ce op tg nu sp ht) (hd : d + 1 < 2 ^ 30) (e1 : op p = nI 13) (e2 : tg p = nI t) (e3 : nu p = nI nn) (h2 : t < 4) (h3 : nn < 256) (ew : sw p = nI wn) (W : sm_Wd 22 (13 * 1024 + t * 256 + nn) wn sn) : sm_Ends d (nI o, 0, nI (d % 48), cp, hc, cw, sw, ob) (nI p, nI o, 0, nI d, rg, ce, op, tg, nu, ob, sp, ht) := by
  obtain ⟨hp, ho, hd', _, C, _, B, S⟩ := F
  obtain ⟨v, hv, ev⟩ := B t h2
  obtain ⟨s, hs, er⟩ := B (nn % 4) (Nat.mod_lt _ (by decide))
  have hc16 : s % 16 < 16 := Nat.mod_lt _ (by decide)
  obtain ⟨cwn, cv, csn, ec, ee, es, Wc⟩ := S.1 (s % 16) hc16
  have Hw := ws_store (ws_cell (ws_step S hp (by decide) h2 h3 e1 e2 e3) hc16 (sm_Wv Wc) ee) hc16 hv
  rw [sm_uu (upd sp p 0)] at Hw
  obtain ⟨cw2, sw2, w, X⟩ := st_c (oc := nI o) (hl := 0) (ob := ob) (d := d) (wv := nI v) hp C (by decide) h2 h3 ew W hc16 ec Wc (fun post' h => by
      rw [er]
      exact sc_s (Or.inr rfl) hs post' h)
    (fun post' h => by
      repeat (first | refine br_t (by decide) ?_ | refine br_f (by decide) ?_)
      rw [ev]
      exact h) (fun post' h => xf_store post' hp (Or.inr rfl) hc16 (by omega) h) Hw
  refine ⟨_, _, X, fun post h => yo_keep post hp hd' e1 e2 e3 h2 h3 hs er h, (p + 1) % 32, o, 0, _, _, cw2, sw2, ob, rg, upd ce (s % 16) (nI v), op, tg, nu, _, _, rfl, by rw [ev], Nat.mod_lt _ (by decide), ho, hd, Or.inl rfl, st_C4 st_C5, sm_Z_e (sm_Z_u sm_Z_5), B, w⟩
theorem sp_jump (F : sm_F p o d 0 cp hc cw sw rg ce op tg nu sp ht) (hd : d + 1 < 2 ^ 30) (e1 : op p = nI 9) (e2 : tg p = nI t) (e3 : nu p = nI nn) (h2 : t < 4) (h3 : nn < 256) (ew : sw p = nI wn) (W : sm_Wd 22 (9 * 1024 + t * 256 + nn) wn sn) : sm_Ends d (nI o, 0, nI (d % 48), cp, hc, cw, sw, ob) (nI p, nI o, 0, nI d, rg, ce, op, tg, nu, ob, sp, ht) := by
  obtain ⟨hp, ho, hd', _, C, _, B, S⟩ := F
  have ej : nI nn &&& 31 = nI (nn % 32) := pk_andN (by omega) 5 (by decide)
  obtain ⟨cw2, sw2, w, X⟩ := st_n (oc := nI o) (hl := 0) (ob := ob) (d := d) (wv := nI (nn % 32)) hp C (by decide) h2 h3 ew W (sc_none (by decide) (by decide))
    (fun post' h => by
      repeat (first | refine br_t (by decide) ?_ | refine br_f (by decide) ?_)
      rw [ej]
      exact h) (fun post' h => xf_jump post' hp (Or.inl rfl) h) (ws_step S hp (by decide) h2 h3 e1 e2 e3)
  exact ⟨_, _, X, fun post h => yo_jump post hp hd' e1 e2 e3 h2 h3 h, nn % 32, o, 0, _, _, cw2, sw2, ob, rg, ce, op, tg, nu, _, _, rfl, rfl, Nat.mod_lt _ (by decide), ho, hd, Or.inl rfl, st_C4 st_C5, sm_Z_e (sm_Z_u sm_Z_5), B, w⟩
theorem sp_zero (F : sm_F p o d 0 cp hc cw sw rg ce op tg nu sp ht) (hd : d + 1 < 2 ^ 30) (e1 : op p = nI 10) (e2 : tg p = nI t) (e3 : nu p = nI nn) (h2 : t < 4) (h3 : nn < 256) (ew : sw p = nI wn) (W : sm_Wd 22 (10 * 1024 + t * 256 + nn) wn sn) : sm_Ends d (nI o, 0, nI (d % 48), cp, hc, cw, sw, ob) (nI p, nI o, 0, nI d, rg, ce, op, tg, nu, ob, sp, ht) := by
  obtain ⟨hp, ho, hd', _, C, _, B, S⟩ := F
  have ej : nI nn &&& 31 = nI (nn % 32) := pk_andN (by omega) 5 (by decide)
  by_cases ez : rg t = 0
  · obtain ⟨cw2, sw2, w, X⟩ := st_n (oc := nI o) (hl := 0) (ob := ob) (d := d) (wv := nI (nn % 32)) hp C (by decide) h2 h3 ew W (sc_none (by decide) (by decide))
      (fun post' h => by
        repeat (first | refine br_t (by decide) ?_ | refine br_f (by decide) ?_)
        refine br_t ez ?_
        rw [ej]
        exact h) (fun post' h => xf_jump post' hp (Or.inr rfl) h) (ws_step S hp (by decide) h2 h3 e1 e2 e3)
    exact ⟨_, _, X, fun post h => yo_zero post hp hd' e1 e2 e3 h2 h3 ez h, nn % 32, o, 0, _, _, cw2, sw2, ob, rg, ce, op, tg, nu, _, _, rfl, rfl, Nat.mod_lt _ (by decide), ho, hd, Or.inl rfl, st_C4 st_C5, sm_Z_e (sm_Z_u sm_Z_5), B, w⟩
  · obtain ⟨cw2, sw2, w, X⟩ := st_n (oc := nI o) (hl := 0) (ob := ob) (d := d) (wv := nI ((p + 1) % 32)) hp C (by decide) h2 h3 ew W (sc_none (by decide) (by decide))
      (fun post' h => by
        repeat (first | refine br_t (by decide) ?_ | refine br_f (by decide) ?_)
        refine br_f ez ?_
        rw [xf_nx hp]
        exact h) (fun post' h => xf_jump post' hp (Or.inr rfl) h) (ws_step S hp (by decide) h2 h3 e1 e2 e3)
    exact ⟨_, _, X, fun post h => yo_nz post hp hd' e1 e2 e3 h2 h3 ez h, (p + 1) % 32, o, 0, _, _, cw2, sw2, ob, rg, ce, op, tg, nu, _, _, rfl, by rw [sm_ue rfl], Nat.mod_lt _ (by decide), ho, hd, Or.inl rfl, st_C4 st_C5, sm_Z_e (sm_Z_u sm_Z_5), B, w⟩
theorem sp_out (F : sm_F p o d 0 cp hc cw sw rg ce op tg nu sp ht) (hd : d + 1 < 2 ^ 30) (e1 : op p = nI 11) (e2 : tg p = nI t) (e3 : nu p = nI nn) (h2 : t < 4) (h3 : nn < 256) (ew : sw p = nI wn) (W : sm_Wd 22 (11 * 1024 + t * 256 + nn) wn sn) : sm_Ends d (nI o, 0, nI (d % 48), cp, hc, cw, sw, ob) (nI p, nI o, 0, nI d, rg, ce, op, tg, nu, ob, sp, ht) := by
  obtain ⟨hp, ho, hd', _, C, _, B, S⟩ := F
  by_cases ho2 : o < 16
  · obtain ⟨cw2, sw2, w, X⟩ := st_n (oc := nI o) (hl := 0) (ob := ob) (d := d) (wv := rg t) hp C (by decide) h2 h3 ew W (sc_none (by decide) (by decide))
      (fun post' h => by
        repeat (first | refine br_t (by decide) ?_ | refine br_f (by decide) ?_)
        exact h) (fun post' h => xf_out post' hp ho2 h) (ws_step S hp (by decide) h2 h3 e1 e2 e3)
    exact ⟨_, _, X, fun post h => yo_out post hp hd' e1 e2 e3 h2 h3 ho2 rfl h, (p + 1) % 32, o + 1, 0, _, _, cw2, sw2, _, rg, ce, op, tg, nu, _, _, rfl, rfl, Nat.mod_lt _ (by decide), by omega, hd, Or.inl rfl, st_C4 st_C5, sm_Z_e (sm_Z_u sm_Z_5), B, w⟩
  · obtain rfl : o = 16 := by omega
    obtain ⟨cw2, sw2, w, X⟩ := st_n (oc := nI 16) (hl := 0) (ob := ob) (d := d) (wv := rg t) hp C (by decide) h2 h3 ew W (sc_none (by decide) (by decide))
      (fun post' h => by
        repeat (first | refine br_t (by decide) ?_ | refine br_f (by decide) ?_)
        exact h) (fun post' h => xf_full post' hp h) (ws_step S hp (by decide) h2 h3 e1 e2 e3)
    exact ⟨_, _, X, fun post h => yo_full post hp hd' e1 e2 e3 h2 h3 rfl h, p, 16, 1, _, _, cw2, sw2, ob, rg, ce, op, tg, nu, _, _, rfl, rfl, hp, ho, hd, Or.inr rfl, st_C4 st_C5, sm_Z_e (sm_Z_u sm_Z_5), B, w⟩
theorem sp_step (F : sm_F p o d 0 cp hc cw sw rg ce op tg nu sp ht) (hd : d + 1 < 2 ^ 30) : sm_Ends d (nI o, 0, nI (d % 48), cp, hc, cw, sw, ob) (nI p, nI o, 0, nI d, rg, ce, op, tg, nu, ob, sp, ht) := by
  obtain ⟨on, t, nn, wn, sn, h1, h2, h3, e1, e2, e3, e4, e5, W⟩ := F.2.2.2.2.2.2.2.2 p F.1
  have hk : on = 0 ∨ (on = 1 ∨ on = 4 ∨ on = 5 ∨ on = 6 ∨ on = 7 ∨ on = 8) ∨ on = 2 ∨ on = 3 ∨ on = 9 ∨ on = 10 ∨ on = 11 ∨ on = 12 ∨ on = 13 := by omega
  rcases hk with rfl | hk | rfl | rfl | rfl | rfl | rfl | rfl | rfl
  · exact sp_stop F hd e1 e2 e3 h2 h3 e4 W
  · exact sp_calc F hd hk e1 e2 e3 h2 h3 e4 W
  · exact sp_load F hd e1 e2 e3 h2 h3 e4 W
  · exact sp_store F hd e1 e2 e3 h2 h3 e4 W
  · exact sp_jump F hd e1 e2 e3 h2 h3 e4 W
  · exact sp_zero F hd e1 e2 e3 h2 h3 e4 W
  · exact sp_out F hd e1 e2 e3 h2 h3 e4 W
  · exact sp_fetch F hd e1 e2 e3 h2 h3 e4 W
  · exact sp_keep F hd e1 e2 e3 h2 h3 e4 W
end STEPS
