/-! append, on both sides -/
section
variable {W W' : Nat → Prop} {e off T P N Q al p n t m x c D : Nat} {l : Nat → Nat} {dc ic r0 r1 r2 r3 : Int32} {tx dx st S O ar lx h mi mk mp wl rc ty dy qi qk qp ly : Nat → Int32} {v w i k z : Int32}
theorem xm_append {post : SX → Prop} (hp : p < 16) (hn : n ≤ 8) (hl : lx p = nI n) (hq : post (nI T, nI P, nI N, nI Q, dc, nI al, ic + 1, tx, dx, st, S, O, ar, upd lx p (nI (n + 1)), h, upd mi (p * 9 + n) (ic + 1), upd mk (p * 9 + n) k, upd mp (p * 9 + n) z, wl, rc)) : wpX_append post (nI T, nI P, nI N, nI Q, dc, nI al, ic, tx, dx, st, S, O, ar, lx, h, mi, mk, mp, wl, rc) (nI p) k z := by
  have v1 : vp_in (nI p) 16 := vp_in_nI hp (by omega)
  have c1 : (nI p).toNatClampNeg = p := nI_clamp (by omega)
  have v2 : vp_in (nI (p * 9 + n)) 144 := vp_in_nI (by omega) (by omega)
  have c2 : (nI (p * 9 + n)).toNatClampNeg = p * 9 + n := nI_clamp (by omega)
  refine nm_e ⟨v1, nm_r (e' := nI (p * 9 + n)) (by rw [c1, hl]; exact mr_yc) ⟨v2, nm_r (e' := upd mi (p * 9 + n) (ic + 1)) (by rw [c2]) ⟨v2, nm_r (e' := upd mk (p * 9 + n) k) (by rw [c2]) ⟨v2, nm_r (e' := upd mp (p * 9 + n) z) (by rw [c2]) ⟨v1, ⟨v1, nm_r (e' := upd lx p (nI (n + 1))) (by rw [c1, hl, nI_1]) hq⟩⟩⟩⟩⟩⟩
theorem ym_append {post : Int32 → SY → Prop} (hp : p < P) (hP : P ≤ 16) (hn : n ≤ 8) (hl : ly p = nI n) (hq : post (ic + 1) (nI T, nI P, nI N, nI Q, nI al, ic + 1, r0, r1, r2, r3, ty, dy, st, S, O, ar, upd qi (p * 9 + n) (ic + 1), upd qk (p * 9 + n) k, upd qp (p * 9 + n) z, upd ly p (nI (n + 1)), wl)) : wpY_append post (nI T, nI P, nI N, nI Q, nI al, ic, r0, r1, r2, r3, ty, dy, st, S, O, ar, qi, qk, qp, ly, wl) (nI p) k z := by
  have v1 : vp_in (nI p) 16 := vp_in_nI (by omega) (by omega)
  have c1 : (nI p).toNatClampNeg = p := nI_clamp (by omega)
  have v2 : vp_in (nI (p * 9 + n)) 144 := vp_in_nI (by omega) (by omega)
  have c2 : (nI (p * 9 + n)).toNatClampNeg = p * 9 + n := nI_clamp (by omega)
  have a1 : ¬ nI p < 0 := nI_pos (by omega)
  have a2 : ¬ nI P ≤ nI p := nI_ge hp (by omega)
  have a3 : ly (nI p).toNatClampNeg < 9 := by rw [c1, hl]; exact nI_lt (b := 9) (by omega) (by omega)
  refine br_f a1 (br_f a2 ⟨v1, br_t a3 (nm_e ⟨v1, nm_r (e' := nI (p * 9 + n)) (by rw [c1, hl]; exact mr_yc) ⟨v2, nm_r (e' := upd qi (p * 9 + n) (ic + 1)) (by rw [c2]) ⟨v2, nm_r (e' := upd qk (p * 9 + n) k) (by rw [c2]) ⟨v2, nm_r (e' := upd qp (p * 9 + n) z) (by rw [c2]) ⟨v1, ⟨v1, nm_r (e' := upd ly p (nI (n + 1))) (by rw [c1, hl, nI_1]) hq⟩⟩⟩⟩⟩⟩)⟩)
theorem xm_free {post : SX → Prop} (hc : c < 32) (hp : post (nI T, nI P, nI N, nI Q, dc, nI al, ic, upd tx c 0, upd dx c (-1), st, S, O, ar, lx, h, mi, mk, mp, wl, rc)) : wpX_freeName post (nI T, nI P, nI N, nI Q, dc, nI al, ic, tx, dx, st, S, O, ar, lx, h, mi, mk, mp, wl, rc) (nI c) := by
  have v1 : vp_in (nI c) 32 := vp_in_nI hc (by omega)
  have c1 : (nI c).toNatClampNeg = c := nI_clamp (by omega)
  exact ⟨v1, nm_r (e' := upd tx c 0) (by rw [c1]) ⟨v1, nm_r (e' := upd dx c (-1)) (by rw [c1]) hp⟩⟩
theorem xm_lose0 {post : SX → Prop} (hc : c < 32) (h0 : tx c &&& (v ^^^ (-1)) = 0) (hp : post (nI T, nI P, nI N, nI Q, dc, nI al, ic, upd tx c 0, upd dx c (-1), st, S, O, ar, lx, h, mi, mk, mp, wl, rc)) : wpX_loseRight post (nI T, nI P, nI N, nI Q, dc, nI al, ic, tx, dx, st, S, O, ar, lx, h, mi, mk, mp, wl, rc) (nI c) v := by
  have v1 : vp_in (nI c) 32 := vp_in_nI hc (by omega)
  have c1 : (nI c).toNatClampNeg = c := nI_clamp (by omega)
  refine ⟨v1, v1, nm_r (e' := upd tx c 0) (by rw [c1, h0]) ⟨v1, br_t (by rw [c1]; exact pk_us) ?_⟩⟩
  refine xm_free hc ?_
  rw [mr_uu]
  exact hp
theorem xm_lose1 {post : SX → Prop} (hc : c < 32) (h0 : tx c &&& (v ^^^ (-1)) = w) (hw : ¬ w = 0) (hp : post (nI T, nI P, nI N, nI Q, dc, nI al, ic, upd tx c w, dx, st, S, O, ar, lx, h, mi, mk, mp, wl, rc)) : wpX_loseRight post (nI T, nI P, nI N, nI Q, dc, nI al, ic, tx, dx, st, S, O, ar, lx, h, mi, mk, mp, wl, rc) (nI c) v := by
  have v1 : vp_in (nI c) 32 := vp_in_nI hc (by omega)
  have c1 : (nI c).toNatClampNeg = c := nI_clamp (by omega)
  exact ⟨v1, v1, nm_r (e' := upd tx c w) (by rw [c1, h0]) ⟨v1, br_f (by rw [c1, pk_us]; exact hw) hp⟩⟩
theorem xm_so1 {post : SX → Prop} (h16 : p < 16) (hl : mr_lv st p) (hp : post (nI T, nI P, nI N, nI Q, dc, nI al, ic, tx, dx, st, S, upd O p (O p - 1), ar, lx, h, mi, mk, mp, wl, rc)) : wpX_dropSendOnce post (nI T, nI P, nI N, nI Q, dc, nI al, ic, tx, dx, st, S, O, ar, lx, h, mi, mk, mp, wl, rc) (nI p) := by
  have v1 : vp_in (nI p) 16 := vp_in_nI h16 (by omega)
  have c1 : (nI p).toNatClampNeg = p := nI_clamp (by omega)
  unfold wpX_dropSendOnce
  exact xm_live1 h16 hl (br_f mr_10 ⟨v1, v1, nm_r (e' := upd O p (O p - 1)) (by rw [c1]) hp⟩)
theorem xm_so0 {post : SX → Prop} (h16 : p < 16) (hl : ¬ mr_lv st p) (hp : post (nI T, nI P, nI N, nI Q, dc, nI al, ic, tx, dx, st, S, O, ar, lx, h, mi, mk, mp, wl, rc)) : wpX_dropSendOnce post (nI T, nI P, nI N, nI Q, dc, nI al, ic, tx, dx, st, S, O, ar, lx, h, mi, mk, mp, wl, rc) (nI p) := by
  unfold wpX_dropSendOnce
  exact xm_live0 h16 hl (br_t rfl hp)
theorem ym_so1 {post : SY → Prop} (h16 : p < P) (hP : P ≤ 16) (hl : mr_lv st p) (hp : post (nI T, nI P, nI N, nI Q, nI al, ic, r0, r1, r2, r3, ty, dy, st, S, upd O p (O p - 1), ar, qi, qk, qp, ly, wl)) : wpY_decO post (nI T, nI P, nI N, nI Q, nI al, ic, r0, r1, r2, r3, ty, dy, st, S, O, ar, qi, qk, qp, ly, wl) (nI p) := by
  have v1 : vp_in (nI p) 16 := vp_in_nI (by omega) (by omega)
  have c1 : (nI p).toNatClampNeg = p := nI_clamp (by omega)
  unfold wpY_decO
  exact ym_live1 h16 hP hl (br_f mr_10 ⟨v1, v1, nm_r (e' := upd O p (O p - 1)) (by rw [c1]) hp⟩)
theorem ym_so0 {post : SY → Prop} (h16 : p < 16) (hP : P ≤ 16) (hl : ¬ mr_lv st p) (hp : post (nI T, nI P, nI N, nI Q, nI al, ic, r0, r1, r2, r3, ty, dy, st, S, O, ar, qi, qk, qp, ly, wl)) : wpY_decO post (nI T, nI P, nI N, nI Q, nI al, ic, r0, r1, r2, r3, ty, dy, st, S, O, ar, qi, qk, qp, ly, wl) (nI p) := by
  unfold wpY_decO
  exact ym_live0 h16 hP hl (br_t rfl hp)
/-! dropSend and decS -/
theorem mr_nb0 : vp_nar .boolean 0 = 0 := by decide
theorem mr_nb1 : vp_nar .boolean 1 = 1 := by decide
theorem xm_ds0 {post : SX → Prop} (h16 : p < 16) (hl : ¬ mr_lv st p) (hp : post (nI T, nI P, nI N, nI Q, dc, nI al, ic, tx, dx, st, S, O, ar, lx, h, mi, mk, mp, wl, rc)) : wpX_dropSend post (nI T, nI P, nI N, nI Q, dc, nI al, ic, tx, dx, st, S, O, ar, lx, h, mi, mk, mp, wl, rc) (nI p) := by
  unfold wpX_dropSend
  exact xm_live0 h16 hl (br_t rfl hp)
theorem xm_ds1 {post : SX → Prop} (h16 : p < 16) (hl : mr_lv st p) (hs : ¬ S p - 1 = 0 ∨ ar p = 0) (hp : post (nI T, nI P, nI N, nI Q, dc, nI al, ic, tx, dx, st, upd S p (S p - 1), O, ar, lx, h, mi, mk, mp, wl, rc)) : wpX_dropSend post (nI T, nI P, nI N, nI Q, dc, nI al, ic, tx, dx, st, S, O, ar, lx, h, mi, mk, mp, wl, rc) (nI p) := by
  have v1 : vp_in (nI p) 16 := vp_in_nI h16 (by omega)
  have c1 : (nI p).toNatClampNeg = p := nI_clamp (by omega)
  unfold wpX_dropSend
  refine xm_live1 h16 hl (br_f mr_10 ⟨v1, v1, nm_r (e' := upd S p (S p - 1)) (by rw [c1]) ⟨v1, ?_⟩⟩)
  by_cases z : S p - 1 = 0
  · exact br_t (by rw [c1, pk_us]; exact z) ⟨v1, br_t (by rw [c1]; exact hs.resolve_left (fun a => a z)) hp⟩
  · exact br_f (by rw [c1, pk_us]; exact z) hp
theorem xm_ds2 {post : SX → Prop} (h16 : p < 16) (hl : mr_lv st p) (hs : S p - 1 = 0) (ha : ar p = 1) (hn : n ≤ 8) (hx : lx p = nI n) (hp : post (nI T, nI P, nI N, nI Q, dc, nI al, ic + 1, tx, dx, st, upd S p (S p - 1), O, upd ar p 0, upd lx p (nI (n + 1)), h, upd mi (p * 9 + n) (ic + 1), upd mk (p * 9 + n) 4, upd mp (p * 9 + n) (-1), wl, rc)) : wpX_dropSend post (nI T, nI P, nI N, nI Q, dc, nI al, ic, tx, dx, st, S, O, ar, lx, h, mi, mk, mp, wl, rc) (nI p) := by
  have v1 : vp_in (nI p) 16 := vp_in_nI h16 (by omega)
  have c1 : (nI p).toNatClampNeg = p := nI_clamp (by omega)
  unfold wpX_dropSend
  refine xm_live1 h16 hl (br_f mr_10 ⟨v1, v1, nm_r (e' := upd S p (S p - 1)) (by rw [c1]) ⟨v1, br_t (by rw [c1, pk_us]; exact hs) ⟨v1, br_f (by rw [c1, ha]; decide) ⟨v1, nm_r (e' := upd ar p 0) (by rw [c1, mr_nb0]) ?_⟩⟩⟩⟩)
  exact xm_append h16 hn hx hp
theorem ym_ds0 {post : SY → Prop} (h16 : p < 16) (hP : P ≤ 16) (hl : ¬ mr_lv st p) (hp : post (nI T, nI P, nI N, nI Q, nI al, ic, r0, r1, r2, r3, ty, dy, st, S, O, ar, qi, qk, qp, ly, wl)) : wpY_decS post (nI T, nI P, nI N, nI Q, nI al, ic, r0, r1, r2, r3, ty, dy, st, S, O, ar, qi, qk, qp, ly, wl) (nI p) := by
  unfold wpY_decS
  exact ym_live0 h16 hP hl (br_t rfl hp)
theorem ym_ds1 {post : SY → Prop} (h16 : p < P) (hP : P ≤ 16) (hl : mr_lv st p) (hs : ¬ S p - 1 = 0 ∨ ar p = 0) (hp : post (nI T, nI P, nI N, nI Q, nI al, ic, r0, r1, r2, r3, ty, dy, st, upd S p (S p - 1), O, ar, qi, qk, qp, ly, wl)) : wpY_decS post (nI T, nI P, nI N, nI Q, nI al, ic, r0, r1, r2, r3, ty, dy, st, S, O, ar, qi, qk, qp, ly, wl) (nI p) := by
  have v1 : vp_in (nI p) 16 := vp_in_nI (by omega) (by omega)
  have c1 : (nI p).toNatClampNeg = p := nI_clamp (by omega)
  unfold wpY_decS
  refine ym_live1 h16 hP hl (br_f mr_10 ⟨v1, nm_r (e' := S p) (by rw [c1]) ⟨v1, nm_r (e' := upd S p (S p - 1)) (by rw [c1]) ?_⟩⟩)
  by_cases z : S p - 1 = 0
  · exact br_t ((mr_s1 _).mp z) ⟨v1, br_t (by rw [c1]; exact hs.resolve_left (fun a => a z)) hp⟩
  · exact br_f (fun a => z ((mr_s1 _).mpr a)) hp
theorem ym_ds2 {post : SY → Prop} (h16 : p < P) (hP : P ≤ 16) (hl : mr_lv st p) (hs : S p - 1 = 0) (ha : ar p = 1) (hn : n ≤ 8) (hx : ly p = nI n) (hp : post (nI T, nI P, nI N, nI Q, nI al, ic + 1, r0, r1, r2, r3, ty, dy, st, upd S p (S p - 1), O, upd ar p 0, upd qi (p * 9 + n) (ic + 1), upd qk (p * 9 + n) 4, upd qp (p * 9 + n) (-1), upd ly p (nI (n + 1)), wl)) : wpY_decS post (nI T, nI P, nI N, nI Q, nI al, ic, r0, r1, r2, r3, ty, dy, st, S, O, ar, qi, qk, qp, ly, wl) (nI p) := by
  have v1 : vp_in (nI p) 16 := vp_in_nI (by omega) (by omega)
  have c1 : (nI p).toNatClampNeg = p := nI_clamp (by omega)
  unfold wpY_decS
  refine ym_live1 h16 hP hl (br_f mr_10 ⟨v1, nm_r (e' := S p) (by rw [c1]) ⟨v1, nm_r (e' := upd S p (S p - 1)) (by rw [c1]) (br_t ((mr_s1 _).mp hs) ⟨v1, br_f (by rw [c1, ha]; decide) ⟨v1, nm_r (e' := upd ar p 0) (by rw [c1, mr_nb0]) ?_⟩⟩)⟩⟩)
  exact ym_append h16 hP hn hx hp
/-- a send right is given up, on both sides -/
theorem mr_dec (hR : mr_R W e off T P N Q al l tx dx st S O ar lx h mi mk mp ty dy qi qk qp ly) (hp : p < al) (he : e < 16 → ¬ mr_lv st e) (ic : Int32) : ∃ (S' ar' : Nat → Int32) (ic' : Int32) (l' : Nat → Nat) (lx' mi' mk' mp' qi' qk' qp' ly' : Nat → Int32), mr_R W e off T P N Q al l' tx dx st S' O ar' lx' h mi' mk' mp' ty dy qi' qk' qp' ly' ∧ (e < 16 → l' e = l e) ∧ (∀ (dc : Int32) (wl rc : Nat → Int32) (post : SX → Prop), post (nI T, nI P, nI N, nI Q, dc, nI al, ic', tx, dx, st, S', O, ar', lx', h, mi', mk', mp', wl, rc) → wpX_dropSend post (nI T, nI P, nI N, nI Q, dc, nI al, ic, tx, dx, st, S, O, ar, lx, h, mi, mk, mp, wl, rc) (nI p)) ∧ (∀ (r0 r1 r2 r3 : Int32) (wl : Nat → Int32) (post : SY → Prop), post (nI T, nI P, nI N, nI Q, nI al, ic', r0, r1, r2, r3, ty, dy, st, S', O, ar', qi', qk', qp', ly', wl) → wpY_decS post (nI T, nI P, nI N, nI Q, nI al, ic, r0, r1, r2, r3, ty, dy, st, S, O, ar, qi, qk, qp, ly, wl) (nI p)) := by
  obtain ⟨b1, b2, b3, b4, b5, b6⟩ := mr_Rb hR
  by_cases hl : mr_lv st p
  · have ne : p ≠ e := fun q => he (by omega) (by rw [← q]; exact hl)
    by_cases hs : S p - 1 = 0 ∧ ar p = 1
    · obtain ⟨l8, r⟩ := mr_Rnote (i := ic + 1) (v := S p - 1) hR (p := p) (by omega) ne hl hs.2
      have hx : lx p = nI (l p) := by
        have := hR.2.2.1 p (by omega)
        rw [if_neg ne] at this
        exact this
      have hy : ly p = nI (l p) := hR.2.2.2.1 p (by omega)
      exact ⟨_, _, _, _, _, _, _, _, _, _, _, _, r, fun _ => mr_uln (fun q => ne q.symm), fun dc wl rc post hq => xm_ds2 (by omega) hl hs.1 hs.2 l8 hx hq, fun r0 r1 r2 r3 wl post hq => ym_ds2 (by omega) b3 hl hs.1 hs.2 l8 hy hq⟩
    · have hs' : ¬ S p - 1 = 0 ∨ ar p = 0 := by
        by_cases z : S p - 1 = 0
        · exact Or.inr ((hR.2.2.2.2.2.2.2.2.2.2.1 p (by omega)).2.2.resolve_right (fun a => hs ⟨z, a⟩))
        · exact Or.inl z
      exact ⟨_, _, _, _, _, _, _, _, _, _, _, _, mr_RS (v := S p - 1) hR hl, fun _ => rfl, fun dc wl rc post hq => xm_ds1 (by omega) hl hs' hq, fun r0 r1 r2 r3 wl post hq => ym_ds1 (by omega) b3 hl hs' hq⟩
  · exact ⟨_, _, _, _, _, _, _, _, _, _, _, _, hR, fun _ => rfl, fun dc wl rc post hq => xm_ds0 (by omega) hl hq, fun r0 r1 r2 r3 wl post hq => ym_ds0 (by omega) b3 hl hq⟩
end
