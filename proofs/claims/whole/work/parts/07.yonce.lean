/-! 07: the reference's step, by operation (written by wip/whole/gen07.py) -/
section YONCE
variable {sh : Int32} {rg ce op tg nu pp sp ht : Nat → Int32}
def sm_calc (k : Nat) (x y n : Int32) : Int32 := if k = 1 then n else if k = 4 then (x + y) &&& 255 else if k = 5 then (x - y) &&& 255 else if k = 6 then x &&& y else if k = 7 then x ^^^ y else if k = 8 then x / 2 else x
theorem yo_stop (post : SY → Prop) {p d t nn : Nat} (hp : p < 32) (hd : d < 2 ^ 30) (e1 : op p = nI 0) (e2 : tg p = nI t) (e3 : nu p = nI nn) (ht4 : t < 4) (hn : nn < 256)
    (h : post (nI p, sh, 1, nI (d + 1), rg, ce, op, tg, nu, pp, upd (upd sp p 0) (d % 48) 0, sm_hc 6 ht)) : wpY_once post (nI p, sh, 0, nI d, rg, ce, op, tg, nu, pp, sp, ht) := by
  have c1 : op (nI p).toNatClampNeg = nI 0 := by rw [nI_clamp (by omega), e1]
  have c2 : tg (nI p).toNatClampNeg = nI t := by rw [nI_clamp (by omega), e2]
  have c3 : nu (nI p).toNatClampNeg = nI nn := by rw [nI_clamp (by omega), e3]
  have r4 : nI nn - nI nn / 4 * 4 = nI (nn % 4) := pk_rem (a := nn) (d := 4) (by omega) (by decide) (by decide)
  have i4 : vp_in (nI nn - nI nn / 4 * 4) 4 := by rw [r4]; exact vp_in_nI (by omega) (by decide)
  have c4 : rg (nI nn - nI nn / 4 * 4).toNatClampNeg = rg (nn % 4) := by rw [r4, nI_clamp (by omega)]
  have nx : (nI p + 1) - (nI p + 1) / 32 * 32 = nI ((p + 1) % 32) := by
    rw [nI_1]
    exact pk_rem (a := p + 1) (d := 32) (by omega) (by decide) (by decide)
  have c5 : upd sp (nI p).toNatClampNeg (vp_nar .boolean 0) = upd sp p 0 := by rw [nI_clamp (by omega), y_b0]
  refine ⟨vp_in_nI hp (by decide), nm_r c1 ⟨vp_in_nI hp (by decide), nm_r c2 ⟨vp_in_nI hp (by decide), nm_r c3 ⟨by decide, i4, nm_r c4 ⟨by decide, nm_r nx ⟨vp_in_nI (by omega) (by decide), nm_r c5 ?_⟩⟩⟩⟩⟩⟩
  repeat (first | refine br_t (by decide) ?_ | refine br_f (by decide) ?_)
  exact yo_227 post _ hd h
theorem yo_load (post : SY → Prop) {p d t nn : Nat} (hp : p < 32) (hd : d < 2 ^ 30) (e1 : op p = nI 2) (e2 : tg p = nI t) (e3 : nu p = nI nn) (ht4 : t < 4) (hn : nn < 256)
    (h : post (nI ((p + 1) % 32), sh, 0, nI (d + 1), upd rg t (ce (nn % 16)), ce, op, tg, nu, pp, upd (upd (upd sp p 0) (32 + nn % 16) 0) (d % 48) 0, sm_hc 6 ht)) : wpY_once post (nI p, sh, 0, nI d, rg, ce, op, tg, nu, pp, sp, ht) := by
  have c1 : op (nI p).toNatClampNeg = nI 2 := by rw [nI_clamp (by omega), e1]
  have c2 : tg (nI p).toNatClampNeg = nI t := by rw [nI_clamp (by omega), e2]
  have c3 : nu (nI p).toNatClampNeg = nI nn := by rw [nI_clamp (by omega), e3]
  have r4 : nI nn - nI nn / 4 * 4 = nI (nn % 4) := pk_rem (a := nn) (d := 4) (by omega) (by decide) (by decide)
  have i4 : vp_in (nI nn - nI nn / 4 * 4) 4 := by rw [r4]; exact vp_in_nI (by omega) (by decide)
  have c4 : rg (nI nn - nI nn / 4 * 4).toNatClampNeg = rg (nn % 4) := by rw [r4, nI_clamp (by omega)]
  have nx : (nI p + 1) - (nI p + 1) / 32 * 32 = nI ((p + 1) % 32) := by
    rw [nI_1]
    exact pk_rem (a := p + 1) (d := 32) (by omega) (by decide) (by decide)
  have c5 : upd sp (nI p).toNatClampNeg (vp_nar .boolean 0) = upd sp p 0 := by rw [nI_clamp (by omega), y_b0]
  refine ⟨vp_in_nI hp (by decide), nm_r c1 ⟨vp_in_nI hp (by decide), nm_r c2 ⟨vp_in_nI hp (by decide), nm_r c3 ⟨by decide, i4, nm_r c4 ⟨by decide, nm_r nx ⟨vp_in_nI (by omega) (by decide), nm_r c5 ?_⟩⟩⟩⟩⟩⟩
  have r16 : nI nn - nI nn / 16 * 16 = nI (nn % 16) := pk_rem (a := nn) (d := 16) (by omega) (by decide) (by decide)
  repeat (first | refine br_t (by decide) ?_ | refine br_f (by decide) ?_)
  refine ⟨by decide, ?_⟩
  repeat (first | refine br_t (by decide) ?_ | refine br_f (by decide) ?_)
  unfold wY_once_99
  rw [r16]
  exact yo_rd _ (by omega) ht4 (yo_210 post _ hd h)
theorem yo_store (post : SY → Prop) {p d t nn : Nat} (hp : p < 32) (hd : d < 2 ^ 30) (e1 : op p = nI 3) (e2 : tg p = nI t) (e3 : nu p = nI nn) (ht4 : t < 4) (hn : nn < 256)
    (h : post (nI ((p + 1) % 32), sh, 0, nI (d + 1), rg, upd ce (nn % 16) (rg t), op, tg, nu, pp, upd (upd (upd sp p 0) (32 + nn % 16) 0) (d % 48) 0, sm_hc 6 ht)) : wpY_once post (nI p, sh, 0, nI d, rg, ce, op, tg, nu, pp, sp, ht) := by
  have c1 : op (nI p).toNatClampNeg = nI 3 := by rw [nI_clamp (by omega), e1]
  have c2 : tg (nI p).toNatClampNeg = nI t := by rw [nI_clamp (by omega), e2]
  have c3 : nu (nI p).toNatClampNeg = nI nn := by rw [nI_clamp (by omega), e3]
  have r4 : nI nn - nI nn / 4 * 4 = nI (nn % 4) := pk_rem (a := nn) (d := 4) (by omega) (by decide) (by decide)
  have i4 : vp_in (nI nn - nI nn / 4 * 4) 4 := by rw [r4]; exact vp_in_nI (by omega) (by decide)
  have c4 : rg (nI nn - nI nn / 4 * 4).toNatClampNeg = rg (nn % 4) := by rw [r4, nI_clamp (by omega)]
  have nx : (nI p + 1) - (nI p + 1) / 32 * 32 = nI ((p + 1) % 32) := by
    rw [nI_1]
    exact pk_rem (a := p + 1) (d := 32) (by omega) (by decide) (by decide)
  have c5 : upd sp (nI p).toNatClampNeg (vp_nar .boolean 0) = upd sp p 0 := by rw [nI_clamp (by omega), y_b0]
  refine ⟨vp_in_nI hp (by decide), nm_r c1 ⟨vp_in_nI hp (by decide), nm_r c2 ⟨vp_in_nI hp (by decide), nm_r c3 ⟨by decide, i4, nm_r c4 ⟨by decide, nm_r nx ⟨vp_in_nI (by omega) (by decide), nm_r c5 ?_⟩⟩⟩⟩⟩⟩
  have r16 : nI nn - nI nn / 16 * 16 = nI (nn % 16) := pk_rem (a := nn) (d := 16) (by omega) (by decide) (by decide)
  repeat (first | refine br_t (by decide) ?_ | refine br_f (by decide) ?_)
  refine ⟨by decide, ?_⟩
  repeat (first | refine br_t (by decide) ?_ | refine br_f (by decide) ?_)
  unfold wY_once_99
  rw [r16]
  exact yo_wr _ (by omega) ht4 (yo_210 post _ hd h)
theorem yo_fetch (post : SY → Prop) {p d t nn : Nat} (hp : p < 32) (hd : d < 2 ^ 30) (e1 : op p = nI 12) (e2 : tg p = nI t) (e3 : nu p = nI nn) (ht4 : t < 4) (hn : nn < 256) {s : Nat} (hs : s < 256) (es : rg (nn % 4) = nI s)
    (h : post (nI ((p + 1) % 32), sh, 0, nI (d + 1), upd rg t (ce (s % 16)), ce, op, tg, nu, pp, upd (upd (upd sp p 0) (32 + s % 16) 0) (d % 48) 0, sm_hc 6 ht)) : wpY_once post (nI p, sh, 0, nI d, rg, ce, op, tg, nu, pp, sp, ht) := by
  have c1 : op (nI p).toNatClampNeg = nI 12 := by rw [nI_clamp (by omega), e1]
  have c2 : tg (nI p).toNatClampNeg = nI t := by rw [nI_clamp (by omega), e2]
  have c3 : nu (nI p).toNatClampNeg = nI nn := by rw [nI_clamp (by omega), e3]
  have r4 : nI nn - nI nn / 4 * 4 = nI (nn % 4) := pk_rem (a := nn) (d := 4) (by omega) (by decide) (by decide)
  have i4 : vp_in (nI nn - nI nn / 4 * 4) 4 := by rw [r4]; exact vp_in_nI (by omega) (by decide)
  have c4 : rg (nI nn - nI nn / 4 * 4).toNatClampNeg = rg (nn % 4) := by rw [r4, nI_clamp (by omega)]
  have nx : (nI p + 1) - (nI p + 1) / 32 * 32 = nI ((p + 1) % 32) := by
    rw [nI_1]
    exact pk_rem (a := p + 1) (d := 32) (by omega) (by decide) (by decide)
  have c5 : upd sp (nI p).toNatClampNeg (vp_nar .boolean 0) = upd sp p 0 := by rw [nI_clamp (by omega), y_b0]
  refine ⟨vp_in_nI hp (by decide), nm_r c1 ⟨vp_in_nI hp (by decide), nm_r c2 ⟨vp_in_nI hp (by decide), nm_r c3 ⟨by decide, i4, nm_r c4 ⟨by decide, nm_r nx ⟨vp_in_nI (by omega) (by decide), nm_r c5 ?_⟩⟩⟩⟩⟩⟩
  rw [es]
  have r16 : nI s - nI s / 16 * 16 = nI (s % 16) := pk_rem (a := s) (d := 16) (by omega) (by decide) (by decide)
  repeat (first | refine br_t (by decide) ?_ | refine br_f (by decide) ?_)
  refine ⟨by decide, ?_⟩
  repeat (first | refine br_t (by decide) ?_ | refine br_f (by decide) ?_)
  unfold wY_once_135
  rw [r16]
  exact yo_rd _ (by omega) ht4 (yo_210 post _ hd h)
theorem yo_keep (post : SY → Prop) {p d t nn : Nat} (hp : p < 32) (hd : d < 2 ^ 30) (e1 : op p = nI 13) (e2 : tg p = nI t) (e3 : nu p = nI nn) (ht4 : t < 4) (hn : nn < 256) {s : Nat} (hs : s < 256) (es : rg (nn % 4) = nI s)
    (h : post (nI ((p + 1) % 32), sh, 0, nI (d + 1), rg, upd ce (s % 16) (rg t), op, tg, nu, pp, upd (upd (upd sp p 0) (32 + s % 16) 0) (d % 48) 0, sm_hc 6 ht)) : wpY_once post (nI p, sh, 0, nI d, rg, ce, op, tg, nu, pp, sp, ht) := by
  have c1 : op (nI p).toNatClampNeg = nI 13 := by rw [nI_clamp (by omega), e1]
  have c2 : tg (nI p).toNatClampNeg = nI t := by rw [nI_clamp (by omega), e2]
  have c3 : nu (nI p).toNatClampNeg = nI nn := by rw [nI_clamp (by omega), e3]
  have r4 : nI nn - nI nn / 4 * 4 = nI (nn % 4) := pk_rem (a := nn) (d := 4) (by omega) (by decide) (by decide)
  have i4 : vp_in (nI nn - nI nn / 4 * 4) 4 := by rw [r4]; exact vp_in_nI (by omega) (by decide)
  have c4 : rg (nI nn - nI nn / 4 * 4).toNatClampNeg = rg (nn % 4) := by rw [r4, nI_clamp (by omega)]
  have nx : (nI p + 1) - (nI p + 1) / 32 * 32 = nI ((p + 1) % 32) := by
    rw [nI_1]
    exact pk_rem (a := p + 1) (d := 32) (by omega) (by decide) (by decide)
  have c5 : upd sp (nI p).toNatClampNeg (vp_nar .boolean 0) = upd sp p 0 := by rw [nI_clamp (by omega), y_b0]
  refine ⟨vp_in_nI hp (by decide), nm_r c1 ⟨vp_in_nI hp (by decide), nm_r c2 ⟨vp_in_nI hp (by decide), nm_r c3 ⟨by decide, i4, nm_r c4 ⟨by decide, nm_r nx ⟨vp_in_nI (by omega) (by decide), nm_r c5 ?_⟩⟩⟩⟩⟩⟩
  rw [es]
  have r16 : nI s - nI s / 16 * 16 = nI (s % 16) := pk_rem (a := s) (d := 16) (by omega) (by decide) (by decide)
  repeat (first | refine br_t (by decide) ?_ | refine br_f (by decide) ?_)
  refine ⟨by decide, ?_⟩
  repeat (first | refine br_t (by decide) ?_ | refine br_f (by decide) ?_)
  unfold wY_once_135
  rw [r16]
  exact yo_wr _ (by omega) ht4 (yo_210 post _ hd h)
theorem yo_out (post : SY → Prop) {p d t nn : Nat} (hp : p < 32) (hd : d < 2 ^ 30) (e1 : op p = nI 11) (e2 : tg p = nI t) (e3 : nu p = nI nn) (ht4 : t < 4) (hn : nn < 256) {o : Nat} (ho : o < 16) (eo : sh = nI o)
    (h : post (nI ((p + 1) % 32), nI (o + 1), 0, nI (d + 1), rg, ce, op, tg, nu, upd pp o (rg t), upd (upd sp p 0) (d % 48) 0, sm_hc 6 ht)) : wpY_once post (nI p, sh, 0, nI d, rg, ce, op, tg, nu, pp, sp, ht) := by
  have c1 : op (nI p).toNatClampNeg = nI 11 := by rw [nI_clamp (by omega), e1]
  have c2 : tg (nI p).toNatClampNeg = nI t := by rw [nI_clamp (by omega), e2]
  have c3 : nu (nI p).toNatClampNeg = nI nn := by rw [nI_clamp (by omega), e3]
  have r4 : nI nn - nI nn / 4 * 4 = nI (nn % 4) := pk_rem (a := nn) (d := 4) (by omega) (by decide) (by decide)
  have i4 : vp_in (nI nn - nI nn / 4 * 4) 4 := by rw [r4]; exact vp_in_nI (by omega) (by decide)
  have c4 : rg (nI nn - nI nn / 4 * 4).toNatClampNeg = rg (nn % 4) := by rw [r4, nI_clamp (by omega)]
  have nx : (nI p + 1) - (nI p + 1) / 32 * 32 = nI ((p + 1) % 32) := by
    rw [nI_1]
    exact pk_rem (a := p + 1) (d := 32) (by omega) (by decide) (by decide)
  have c5 : upd sp (nI p).toNatClampNeg (vp_nar .boolean 0) = upd sp p 0 := by rw [nI_clamp (by omega), y_b0]
  refine ⟨vp_in_nI hp (by decide), nm_r c1 ⟨vp_in_nI hp (by decide), nm_r c2 ⟨vp_in_nI hp (by decide), nm_r c3 ⟨by decide, i4, nm_r c4 ⟨by decide, nm_r nx ⟨vp_in_nI (by omega) (by decide), nm_r c5 ?_⟩⟩⟩⟩⟩⟩
  have ct : rg (nI t).toNatClampNeg = rg t := by rw [nI_clamp (by omega)]
  repeat (first | refine br_t (by decide) ?_ | refine br_f (by decide) ?_)
  refine ⟨vp_in_nI ht4 (by decide), ?_⟩
  rw [ct, eo]
  refine br_f ?_ ⟨vp_in_nI ho (by decide), nm_r (e' := upd pp o (rg t)) (by rw [nI_clamp (by omega)]) (nm_r (nI_1 o) ?_)⟩
  · exact fun z => absurd ((nI_eq (b := 16) (by omega) (by decide)).mp z) (by omega)
  · exact yo_210 post _ hd h
theorem yo_full (post : SY → Prop) {p d t nn : Nat} (hp : p < 32) (hd : d < 2 ^ 30) (e1 : op p = nI 11) (e2 : tg p = nI t) (e3 : nu p = nI nn) (ht4 : t < 4) (hn : nn < 256) (eo : sh = nI 16)
    (h : post (nI p, sh, 1, nI (d + 1), rg, ce, op, tg, nu, pp, upd (upd sp p 0) (d % 48) 0, sm_hc 6 ht)) : wpY_once post (nI p, sh, 0, nI d, rg, ce, op, tg, nu, pp, sp, ht) := by
  have c1 : op (nI p).toNatClampNeg = nI 11 := by rw [nI_clamp (by omega), e1]
  have c2 : tg (nI p).toNatClampNeg = nI t := by rw [nI_clamp (by omega), e2]
  have c3 : nu (nI p).toNatClampNeg = nI nn := by rw [nI_clamp (by omega), e3]
  have r4 : nI nn - nI nn / 4 * 4 = nI (nn % 4) := pk_rem (a := nn) (d := 4) (by omega) (by decide) (by decide)
  have i4 : vp_in (nI nn - nI nn / 4 * 4) 4 := by rw [r4]; exact vp_in_nI (by omega) (by decide)
  have c4 : rg (nI nn - nI nn / 4 * 4).toNatClampNeg = rg (nn % 4) := by rw [r4, nI_clamp (by omega)]
  have nx : (nI p + 1) - (nI p + 1) / 32 * 32 = nI ((p + 1) % 32) := by
    rw [nI_1]
    exact pk_rem (a := p + 1) (d := 32) (by omega) (by decide) (by decide)
  have c5 : upd sp (nI p).toNatClampNeg (vp_nar .boolean 0) = upd sp p 0 := by rw [nI_clamp (by omega), y_b0]
  refine ⟨vp_in_nI hp (by decide), nm_r c1 ⟨vp_in_nI hp (by decide), nm_r c2 ⟨vp_in_nI hp (by decide), nm_r c3 ⟨by decide, i4, nm_r c4 ⟨by decide, nm_r nx ⟨vp_in_nI (by omega) (by decide), nm_r c5 ?_⟩⟩⟩⟩⟩⟩
  repeat (first | refine br_t (by decide) ?_ | refine br_f (by decide) ?_)
  refine ⟨vp_in_nI ht4 (by decide), ?_⟩
  refine br_t eo ?_
  exact yo_210h post _ hd h
theorem yo_jump (post : SY → Prop) {p d t nn : Nat} (hp : p < 32) (hd : d < 2 ^ 30) (e1 : op p = nI 9) (e2 : tg p = nI t) (e3 : nu p = nI nn) (ht4 : t < 4) (hn : nn < 256)
    (h : post (nI (nn % 32), sh, 0, nI (d + 1), rg, ce, op, tg, nu, pp, upd (upd sp p 0) (d % 48) 0, sm_hc 6 ht)) : wpY_once post (nI p, sh, 0, nI d, rg, ce, op, tg, nu, pp, sp, ht) := by
  have c1 : op (nI p).toNatClampNeg = nI 9 := by rw [nI_clamp (by omega), e1]
  have c2 : tg (nI p).toNatClampNeg = nI t := by rw [nI_clamp (by omega), e2]
  have c3 : nu (nI p).toNatClampNeg = nI nn := by rw [nI_clamp (by omega), e3]
  have r4 : nI nn - nI nn / 4 * 4 = nI (nn % 4) := pk_rem (a := nn) (d := 4) (by omega) (by decide) (by decide)
  have i4 : vp_in (nI nn - nI nn / 4 * 4) 4 := by rw [r4]; exact vp_in_nI (by omega) (by decide)
  have c4 : rg (nI nn - nI nn / 4 * 4).toNatClampNeg = rg (nn % 4) := by rw [r4, nI_clamp (by omega)]
  have nx : (nI p + 1) - (nI p + 1) / 32 * 32 = nI ((p + 1) % 32) := by
    rw [nI_1]
    exact pk_rem (a := p + 1) (d := 32) (by omega) (by decide) (by decide)
  have c5 : upd sp (nI p).toNatClampNeg (vp_nar .boolean 0) = upd sp p 0 := by rw [nI_clamp (by omega), y_b0]
  refine ⟨vp_in_nI hp (by decide), nm_r c1 ⟨vp_in_nI hp (by decide), nm_r c2 ⟨vp_in_nI hp (by decide), nm_r c3 ⟨by decide, i4, nm_r c4 ⟨by decide, nm_r nx ⟨vp_in_nI (by omega) (by decide), nm_r c5 ?_⟩⟩⟩⟩⟩⟩
  have r32 : nI nn - nI nn / 32 * 32 = nI (nn % 32) := pk_rem (a := nn) (d := 32) (by omega) (by decide) (by decide)
  repeat (first | refine br_t (by decide) ?_ | refine br_f (by decide) ?_)
  refine ⟨by decide, nm_r r32 ?_⟩
  exact yo_210 post _ hd h
theorem yo_zero (post : SY → Prop) {p d t nn : Nat} (hp : p < 32) (hd : d < 2 ^ 30) (e1 : op p = nI 10) (e2 : tg p = nI t) (e3 : nu p = nI nn) (ht4 : t < 4) (hn : nn < 256) (ez : rg t = 0)
    (h : post (nI (nn % 32), sh, 0, nI (d + 1), rg, ce, op, tg, nu, pp, upd (upd sp p 0) (d % 48) 0, sm_hc 6 ht)) : wpY_once post (nI p, sh, 0, nI d, rg, ce, op, tg, nu, pp, sp, ht) := by
  have c1 : op (nI p).toNatClampNeg = nI 10 := by rw [nI_clamp (by omega), e1]
  have c2 : tg (nI p).toNatClampNeg = nI t := by rw [nI_clamp (by omega), e2]
  have c3 : nu (nI p).toNatClampNeg = nI nn := by rw [nI_clamp (by omega), e3]
  have r4 : nI nn - nI nn / 4 * 4 = nI (nn % 4) := pk_rem (a := nn) (d := 4) (by omega) (by decide) (by decide)
  have i4 : vp_in (nI nn - nI nn / 4 * 4) 4 := by rw [r4]; exact vp_in_nI (by omega) (by decide)
  have c4 : rg (nI nn - nI nn / 4 * 4).toNatClampNeg = rg (nn % 4) := by rw [r4, nI_clamp (by omega)]
  have nx : (nI p + 1) - (nI p + 1) / 32 * 32 = nI ((p + 1) % 32) := by
    rw [nI_1]
    exact pk_rem (a := p + 1) (d := 32) (by omega) (by decide) (by decide)
  have c5 : upd sp (nI p).toNatClampNeg (vp_nar .boolean 0) = upd sp p 0 := by rw [nI_clamp (by omega), y_b0]
  refine ⟨vp_in_nI hp (by decide), nm_r c1 ⟨vp_in_nI hp (by decide), nm_r c2 ⟨vp_in_nI hp (by decide), nm_r c3 ⟨by decide, i4, nm_r c4 ⟨by decide, nm_r nx ⟨vp_in_nI (by omega) (by decide), nm_r c5 ?_⟩⟩⟩⟩⟩⟩
  have r32 : nI nn - nI nn / 32 * 32 = nI (nn % 32) := pk_rem (a := nn) (d := 32) (by omega) (by decide) (by decide)
  have ct : rg (nI t).toNatClampNeg = rg t := by rw [nI_clamp (by omega)]
  repeat (first | refine br_t (by decide) ?_ | refine br_f (by decide) ?_)
  refine ⟨vp_in_nI ht4 (by decide), ?_⟩
  rw [ct]
  refine br_t ez ⟨by decide, nm_r r32 ?_⟩
  exact yo_210 post _ hd h
theorem yo_nz (post : SY → Prop) {p d t nn : Nat} (hp : p < 32) (hd : d < 2 ^ 30) (e1 : op p = nI 10) (e2 : tg p = nI t) (e3 : nu p = nI nn) (ht4 : t < 4) (hn : nn < 256) (ez : ¬ rg t = 0)
    (h : post (nI ((p + 1) % 32), sh, 0, nI (d + 1), upd rg t (rg t), ce, op, tg, nu, pp, upd (upd sp p 0) (d % 48) 0, sm_hc 6 ht)) : wpY_once post (nI p, sh, 0, nI d, rg, ce, op, tg, nu, pp, sp, ht) := by
  have c1 : op (nI p).toNatClampNeg = nI 10 := by rw [nI_clamp (by omega), e1]
  have c2 : tg (nI p).toNatClampNeg = nI t := by rw [nI_clamp (by omega), e2]
  have c3 : nu (nI p).toNatClampNeg = nI nn := by rw [nI_clamp (by omega), e3]
  have r4 : nI nn - nI nn / 4 * 4 = nI (nn % 4) := pk_rem (a := nn) (d := 4) (by omega) (by decide) (by decide)
  have i4 : vp_in (nI nn - nI nn / 4 * 4) 4 := by rw [r4]; exact vp_in_nI (by omega) (by decide)
  have c4 : rg (nI nn - nI nn / 4 * 4).toNatClampNeg = rg (nn % 4) := by rw [r4, nI_clamp (by omega)]
  have nx : (nI p + 1) - (nI p + 1) / 32 * 32 = nI ((p + 1) % 32) := by
    rw [nI_1]
    exact pk_rem (a := p + 1) (d := 32) (by omega) (by decide) (by decide)
  have c5 : upd sp (nI p).toNatClampNeg (vp_nar .boolean 0) = upd sp p 0 := by rw [nI_clamp (by omega), y_b0]
  refine ⟨vp_in_nI hp (by decide), nm_r c1 ⟨vp_in_nI hp (by decide), nm_r c2 ⟨vp_in_nI hp (by decide), nm_r c3 ⟨by decide, i4, nm_r c4 ⟨by decide, nm_r nx ⟨vp_in_nI (by omega) (by decide), nm_r c5 ?_⟩⟩⟩⟩⟩⟩
  have ct : rg (nI t).toNatClampNeg = rg t := by rw [nI_clamp (by omega)]
  repeat (first | refine br_t (by decide) ?_ | refine br_f (by decide) ?_)
  refine ⟨vp_in_nI ht4 (by decide), ?_⟩
  rw [ct]
  refine br_f ez ?_
  unfold wY_once_190
  refine ⟨vp_in_nI ht4 (by decide), ?_⟩
  rw [ct]
  unfold wpY_calculated
  repeat (first | refine br_t (by decide) ?_ | refine br_f (by decide) ?_)
  refine ⟨vp_in_nI ht4 (by decide), nm_r (e' := upd rg t (rg t)) (by rw [nI_clamp (by omega)]) ?_⟩
  exact yo_210 post _ hd h
theorem yo_calc (post : SY → Prop) {p d t nn k : Nat} (hp : p < 32) (hd : d < 2 ^ 30) (e1 : op p = nI k) (e2 : tg p = nI t) (e3 : nu p = nI nn) (ht4 : t < 4) (hn : nn < 256) (hk : k = 1 ∨ k = 4 ∨ k = 5 ∨ k = 6 ∨ k = 7 ∨ k = 8)
    (h : post (nI ((p + 1) % 32), sh, 0, nI (d + 1), upd rg t (sm_calc k (rg t) (rg (nn % 4)) (nI nn)), ce, op, tg, nu, pp, upd (upd sp p 0) (d % 48) 0, sm_hc 6 ht)) : wpY_once post (nI p, sh, 0, nI d, rg, ce, op, tg, nu, pp, sp, ht) := by
  have c1 : op (nI p).toNatClampNeg = nI k := by rw [nI_clamp (by omega), e1]
  have c2 : tg (nI p).toNatClampNeg = nI t := by rw [nI_clamp (by omega), e2]
  have c3 : nu (nI p).toNatClampNeg = nI nn := by rw [nI_clamp (by omega), e3]
  have r4 : nI nn - nI nn / 4 * 4 = nI (nn % 4) := pk_rem (a := nn) (d := 4) (by omega) (by decide) (by decide)
  have i4 : vp_in (nI nn - nI nn / 4 * 4) 4 := by rw [r4]; exact vp_in_nI (by omega) (by decide)
  have c4 : rg (nI nn - nI nn / 4 * 4).toNatClampNeg = rg (nn % 4) := by rw [r4, nI_clamp (by omega)]
  have nx : (nI p + 1) - (nI p + 1) / 32 * 32 = nI ((p + 1) % 32) := by
    rw [nI_1]
    exact pk_rem (a := p + 1) (d := 32) (by omega) (by decide) (by decide)
  have c5 : upd sp (nI p).toNatClampNeg (vp_nar .boolean 0) = upd sp p 0 := by rw [nI_clamp (by omega), y_b0]
  refine ⟨vp_in_nI hp (by decide), nm_r c1 ⟨vp_in_nI hp (by decide), nm_r c2 ⟨vp_in_nI hp (by decide), nm_r c3 ⟨by decide, i4, nm_r c4 ⟨by decide, nm_r nx ⟨vp_in_nI (by omega) (by decide), nm_r c5 ?_⟩⟩⟩⟩⟩⟩
  have ct : rg (nI t).toNatClampNeg = rg t := by rw [nI_clamp (by omega)]
  rcases hk with rfl | rfl | rfl | rfl | rfl | rfl
  all_goals
    repeat (first | refine br_t (by decide) ?_ | refine br_f (by decide) ?_)
    unfold wY_once_190
    refine ⟨vp_in_nI ht4 (by decide), ?_⟩
    rw [ct]
    unfold wpY_calculated
    repeat (first | refine br_t (by decide) ?_ | refine br_f (by decide) ?_)
    first
      | refine ⟨vp_in_nI ht4 (by decide), nm_r (e' := upd rg t _) (by rw [nI_clamp (by omega)]) ?_⟩
      | refine ⟨by decide, vp_in_nI ht4 (by decide), nm_r (e' := upd rg t _) (by rw [nI_clamp (by omega)]) ?_⟩
    exact yo_210 post _ hd h
end YONCE
