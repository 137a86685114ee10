/-! deallocate -/
section
variable {W W' : Nat → Prop} {e off T P N Q al p n t m x c D : Nat} {l : Nat → Nat} {dc ic r0 r1 r2 r3 : Int32} {tx dx st S O ar lx h mi mk mp wl rc ty dy qi qk qp ly : Nat → Int32} {v w i k z : Int32}
theorem xm_deT {post : Int32 → SX → Prop} {y y2 : Int32} (hy : y < 0 ∨ nI T ≤ y) (hp : post (-1) (nI T, nI P, nI N, nI Q, dc, nI al, ic, tx, dx, st, S, O, ar, lx, h, mi, mk, mp, wl, rc)) : wpX_deallocate post (nI T, nI P, nI N, nI Q, dc, nI al, ic, tx, dx, st, S, O, ar, lx, h, mi, mk, mp, wl, rc) y y2 := by
  unfold wpX_deallocate
  exact xm_task0 hy (br_t rfl hp)
theorem xm_deN {post : Int32 → SX → Prop} {y2 : Int32} (ht : t < T) (hT : T ≤ 4) (hy : y2 < 1 ∨ nI N < y2) (hp : post (-2) (nI T, nI P, nI N, nI Q, dc, nI al, ic, tx, dx, st, S, O, ar, lx, h, mi, mk, mp, wl, rc)) : wpX_deallocate post (nI T, nI P, nI N, nI Q, dc, nI al, ic, tx, dx, st, S, O, ar, lx, h, mi, mk, mp, wl, rc) (nI t) y2 := by
  unfold wpX_deallocate
  refine xm_task1 ht hT (br_f mr_10 ?_)
  exact xm_nt0 ht hT hy (br_t rfl hp)
theorem xm_de01 {post : Int32 → SX → Prop} (ht : t < T) (hT : T ≤ 4) (hm : m < N) (hN : N ≤ 8) (h0 : tx (t * 8 + m) = 0 ∨ tx (t * 8 + m) = 1) (hp : post (-2) (nI T, nI P, nI N, nI Q, dc, nI al, ic, tx, dx, st, S, O, ar, lx, h, mi, mk, mp, wl, rc)) : wpX_deallocate post (nI T, nI P, nI N, nI Q, dc, nI al, ic, tx, dx, st, S, O, ar, lx, h, mi, mk, mp, wl, rc) (nI t) (nI (m + 1)) := by
  unfold wpX_deallocate
  refine xm_task1 ht hT (br_f mr_10 ?_)
  refine xm_nt1 ht hT hm hN ?_
  by_cases z : tx (t * 8 + m) = 0
  · exact br_t z hp
  · exact br_f z (br_t (h0.resolve_left z) hp)
theorem xm_de2 {post : Int32 → SX → Prop} {u : SX} (ht : t < T) (hT : T ≤ 4) (hm : m < N) (hN : N ≤ 8) (h0 : tx (t * 8 + m) = 2) (hd : dx (t * 8 + m) = nI p) (hX : ∀ q : SX → Prop, q u → wpX_dropSend q (nI T, nI P, nI N, nI Q, dc, nI al, ic, upd tx (t * 8 + m) 0, upd dx (t * 8 + m) (-1), st, S, O, ar, lx, h, mi, mk, mp, wl, rc) (nI p)) (hp : post 0 u) : wpX_deallocate post (nI T, nI P, nI N, nI Q, dc, nI al, ic, tx, dx, st, S, O, ar, lx, h, mi, mk, mp, wl, rc) (nI t) (nI (m + 1)) := by
  unfold wpX_deallocate
  refine xm_task1 ht hT (br_f mr_10 ?_)
  refine xm_nt1 ht hT hm hN ?_
  rw [h0]
  refine br_f (by decide) (br_f (by decide) (xm_cell ⟨vp_in_nI (by omega) (by omega), nm_r (e' := nI p) (by rw [nI_clamp (by omega)]; exact hd) (br_f (by decide) ?_)⟩))
  refine xm_lose0 (by omega) (by rw [h0]; decide) ?_
  refine hX _ ?_
  obtain ⟨_, _, _, _, _, _, _, _, _, _, _, _, _, _, _, _, _, _, _, _⟩ := u
  exact br_f (by decide) hp
theorem xm_de3 {post : Int32 → SX → Prop} {u : SX} (ht : t < T) (hT : T ≤ 4) (hm : m < N) (hN : N ≤ 8) (h0 : tx (t * 8 + m) = 3) (hd : dx (t * 8 + m) = nI p) (hX : ∀ q : SX → Prop, q u → wpX_dropSend q (nI T, nI P, nI N, nI Q, dc, nI al, ic, upd tx (t * 8 + m) 1, dx, st, S, O, ar, lx, h, mi, mk, mp, wl, rc) (nI p)) (hp : post 0 u) : wpX_deallocate post (nI T, nI P, nI N, nI Q, dc, nI al, ic, tx, dx, st, S, O, ar, lx, h, mi, mk, mp, wl, rc) (nI t) (nI (m + 1)) := by
  unfold wpX_deallocate
  refine xm_task1 ht hT (br_f mr_10 ?_)
  refine xm_nt1 ht hT hm hN ?_
  rw [h0]
  refine br_f (by decide) (br_f (by decide) (xm_cell ⟨vp_in_nI (by omega) (by omega), nm_r (e' := nI p) (by rw [nI_clamp (by omega)]; exact hd) (br_f (by decide) ?_)⟩))
  refine xm_lose1 (w := 1) (by omega) (by rw [h0]; decide) (by decide) ?_
  refine hX _ ?_
  obtain ⟨_, _, _, _, _, _, _, _, _, _, _, _, _, _, _, _, _, _, _, _⟩ := u
  exact br_f (by decide) hp
theorem xm_de4 {post : Int32 → SX → Prop} (ht : t < T) (hT : T ≤ 4) (hm : m < N) (hN : N ≤ 8) (h0 : tx (t * 8 + m) = 4) (hd : dx (t * 8 + m) = nI p) (h16 : p < 16) (hl : mr_lv st p) (hp : post 0 (nI T, nI P, nI N, nI Q, dc, nI al, ic, upd tx (t * 8 + m) 0, upd dx (t * 8 + m) (-1), st, S, upd O p (O p - 1), ar, lx, h, mi, mk, mp, wl, rc)) : wpX_deallocate post (nI T, nI P, nI N, nI Q, dc, nI al, ic, tx, dx, st, S, O, ar, lx, h, mi, mk, mp, wl, rc) (nI t) (nI (m + 1)) := by
  unfold wpX_deallocate
  refine xm_task1 ht hT (br_f mr_10 ?_)
  refine xm_nt1 ht hT hm hN ?_
  rw [h0]
  refine br_f (by decide) (br_f (by decide) (xm_cell ⟨vp_in_nI (by omega) (by omega), nm_r (e' := nI p) (by rw [nI_clamp (by omega)]; exact hd) (br_t (by decide) ?_)⟩))
  refine xm_free (by omega) (br_t rfl ?_)
  exact xm_so1 h16 hl hp
theorem xm_de8 {post : Int32 → SX → Prop} (ht : t < T) (hT : T ≤ 4) (hm : m < N) (hN : N ≤ 8) (h0 : tx (t * 8 + m) = 8) (hp : post 0 (nI T, nI P, nI N, nI Q, dc, nI al, ic, upd tx (t * 8 + m) 0, upd dx (t * 8 + m) (-1), st, S, O, ar, lx, h, mi, mk, mp, wl, rc)) : wpX_deallocate post (nI T, nI P, nI N, nI Q, dc, nI al, ic, tx, dx, st, S, O, ar, lx, h, mi, mk, mp, wl, rc) (nI t) (nI (m + 1)) := by
  unfold wpX_deallocate
  refine xm_task1 ht hT (br_f mr_10 ?_)
  refine xm_nt1 ht hT hm hN ?_
  rw [h0]
  refine br_f (by decide) (br_f (by decide) (xm_cell ⟨vp_in_nI (by omega) (by omega), nm_e (br_t (by decide) ?_)⟩))
  exact xm_free (by omega) (br_f (by decide) hp)
theorem ym_deT {post : Int32 → SY → Prop} {y y2 : Int32} (hy : y < 0 ∨ nI T ≤ y) (hp : post (-1) (nI T, nI P, nI N, nI Q, nI al, ic, r0, r1, r2, r3, ty, dy, st, S, O, ar, qi, qk, qp, ly, wl)) : wpY_deallocate post (nI T, nI P, nI N, nI Q, nI al, ic, r0, r1, r2, r3, ty, dy, st, S, O, ar, qi, qk, qp, ly, wl) y y2 := by
  unfold wpY_deallocate
  exact ym_task0 hy (br_t rfl hp)
theorem ym_deN {post : Int32 → SY → Prop} {y2 : Int32} (ht : t < T) (hT : T ≤ 4) (hy : y2 < 1 ∨ nI N < y2) (hp : post (-2) (nI T, nI P, nI N, nI Q, nI al, ic, r0, r1, r2, r3, ty, dy, st, S, O, ar, qi, qk, qp, ly, wl)) : wpY_deallocate post (nI T, nI P, nI N, nI Q, nI al, ic, r0, r1, r2, r3, ty, dy, st, S, O, ar, qi, qk, qp, ly, wl) (nI t) y2 := by
  unfold wpY_deallocate
  refine ym_task1 ht hT (br_f mr_10 ?_)
  exact ym_name0 hy (br_t rfl hp)
theorem ym_de01 {post : Int32 → SY → Prop} (ht : t < T) (hT : T ≤ 4) (hm : m < N) (hN : N ≤ 8) (h0 : ty (t * 9 + (m + 1)) = 0 ∨ ty (t * 9 + (m + 1)) = 1) (hp : post (-2) (nI T, nI P, nI N, nI Q, nI al, ic, r0, r1, r2, r3, ty, dy, st, S, O, ar, qi, qk, qp, ly, wl)) : wpY_deallocate post (nI T, nI P, nI N, nI Q, nI al, ic, r0, r1, r2, r3, ty, dy, st, S, O, ar, qi, qk, qp, ly, wl) (nI t) (nI (m + 1)) := by
  unfold wpY_deallocate
  refine ym_task1 ht hT (br_f mr_10 ?_)
  refine ym_name1 hm hN (br_f mr_10 (nm_r mr_yc ⟨vp_in_nI (by omega) (by omega), nm_r (e' := ty (t * 9 + (m + 1))) (by rw [nI_clamp (by omega)]) ?_⟩))
  by_cases z : ty (t * 9 + (m + 1)) = 0
  · exact br_t z hp
  · exact br_f z (br_t (h0.resolve_left z) hp)
theorem ym_de2 {post : Int32 → SY → Prop} {u : SY} (ht : t < T) (hT : T ≤ 4) (hm : m < N) (hN : N ≤ 8) (h0 : ty (t * 9 + (m + 1)) = 2) (hd : dy (t * 9 + (m + 1)) = nI p) (hX : ∀ q : SY → Prop, q u → wpY_decS q (nI T, nI P, nI N, nI Q, nI al, ic, r0, r1, r2, r3, upd ty (t * 9 + (m + 1)) 0, upd dy (t * 9 + (m + 1)) (-1), st, S, O, ar, qi, qk, qp, ly, wl) (nI p)) (hp : post 0 u) : wpY_deallocate post (nI T, nI P, nI N, nI Q, nI al, ic, r0, r1, r2, r3, ty, dy, st, S, O, ar, qi, qk, qp, ly, wl) (nI t) (nI (m + 1)) := by
  have vc : vp_in (nI (t * 9 + (m + 1))) 36 := vp_in_nI (by omega) (by omega)
  have cc : (nI (t * 9 + (m + 1))).toNatClampNeg = t * 9 + (m + 1) := nI_clamp (by omega)
  unfold wpY_deallocate
  refine ym_task1 ht hT (br_f mr_10 ?_)
  refine ym_name1 hm hN (br_f mr_10 (nm_r mr_yc ⟨vc, nm_r (e' := 2) (by rw [cc]; exact h0) (br_f (by decide) (br_f (by decide) ⟨vc, nm_r (e' := nI p) (by rw [cc]; exact hd) ?_⟩))⟩))
  refine br_t rfl (ym_free (by omega) ?_)
  refine hX _ ?_
  obtain ⟨_, _, _, _, _, _, _, _, _, _, _, _, _, _, _, _, _, _, _, _, _⟩ := u
  exact hp
theorem ym_de3 {post : Int32 → SY → Prop} {u : SY} (ht : t < T) (hT : T ≤ 4) (hm : m < N) (hN : N ≤ 8) (h0 : ty (t * 9 + (m + 1)) = 3) (hd : dy (t * 9 + (m + 1)) = nI p) (hX : ∀ q : SY → Prop, q u → wpY_decS q (nI T, nI P, nI N, nI Q, nI al, ic, r0, r1, r2, r3, upd ty (t * 9 + (m + 1)) 1, dy, st, S, O, ar, qi, qk, qp, ly, wl) (nI p)) (hp : post 0 u) : wpY_deallocate post (nI T, nI P, nI N, nI Q, nI al, ic, r0, r1, r2, r3, ty, dy, st, S, O, ar, qi, qk, qp, ly, wl) (nI t) (nI (m + 1)) := by
  have vc : vp_in (nI (t * 9 + (m + 1))) 36 := vp_in_nI (by omega) (by omega)
  have cc : (nI (t * 9 + (m + 1))).toNatClampNeg = t * 9 + (m + 1) := nI_clamp (by omega)
  unfold wpY_deallocate
  refine ym_task1 ht hT (br_f mr_10 ?_)
  refine ym_name1 hm hN (br_f mr_10 (nm_r mr_yc ⟨vc, nm_r (e' := 3) (by rw [cc]; exact h0) (br_f (by decide) (br_f (by decide) ⟨vc, nm_r (e' := nI p) (by rw [cc]; exact hd) ?_⟩))⟩))
  refine br_f (by decide) (br_t rfl ⟨vc, nm_r (e' := upd ty (t * 9 + (m + 1)) 1) (by rw [cc]) ?_⟩)
  refine hX _ ?_
  obtain ⟨_, _, _, _, _, _, _, _, _, _, _, _, _, _, _, _, _, _, _, _, _⟩ := u
  exact hp
theorem ym_de4 {post : Int32 → SY → Prop} (ht : t < T) (hT : T ≤ 4) (hm : m < N) (hN : N ≤ 8) (h0 : ty (t * 9 + (m + 1)) = 4) (hd : dy (t * 9 + (m + 1)) = nI p) (h1 : p < P) (hP : P ≤ 16) (hl : mr_lv st p) (hp : post 0 (nI T, nI P, nI N, nI Q, nI al, ic, r0, r1, r2, r3, upd ty (t * 9 + (m + 1)) 0, upd dy (t * 9 + (m + 1)) (-1), st, S, upd O p (O p - 1), ar, qi, qk, qp, ly, wl)) : wpY_deallocate post (nI T, nI P, nI N, nI Q, nI al, ic, r0, r1, r2, r3, ty, dy, st, S, O, ar, qi, qk, qp, ly, wl) (nI t) (nI (m + 1)) := by
  have vc : vp_in (nI (t * 9 + (m + 1))) 36 := vp_in_nI (by omega) (by omega)
  have cc : (nI (t * 9 + (m + 1))).toNatClampNeg = t * 9 + (m + 1) := nI_clamp (by omega)
  unfold wpY_deallocate
  refine ym_task1 ht hT (br_f mr_10 ?_)
  refine ym_name1 hm hN (br_f mr_10 (nm_r mr_yc ⟨vc, nm_r (e' := 4) (by rw [cc]; exact h0) (br_f (by decide) (br_f (by decide) ⟨vc, nm_r (e' := nI p) (by rw [cc]; exact hd) ?_⟩))⟩))
  refine br_f (by decide) (br_f (by decide) (br_t rfl (ym_free (by omega) ?_)))
  exact ym_so1 h1 hP hl hp
theorem ym_de8 {post : Int32 → SY → Prop} (ht : t < T) (hT : T ≤ 4) (hm : m < N) (hN : N ≤ 8) (h0 : ty (t * 9 + (m + 1)) = 8) (hp : post 0 (nI T, nI P, nI N, nI Q, nI al, ic, r0, r1, r2, r3, upd ty (t * 9 + (m + 1)) 0, upd dy (t * 9 + (m + 1)) (-1), st, S, O, ar, qi, qk, qp, ly, wl)) : wpY_deallocate post (nI T, nI P, nI N, nI Q, nI al, ic, r0, r1, r2, r3, ty, dy, st, S, O, ar, qi, qk, qp, ly, wl) (nI t) (nI (m + 1)) := by
  have vc : vp_in (nI (t * 9 + (m + 1))) 36 := vp_in_nI (by omega) (by omega)
  have cc : (nI (t * 9 + (m + 1))).toNatClampNeg = t * 9 + (m + 1) := nI_clamp (by omega)
  unfold wpY_deallocate
  refine ym_task1 ht hT (br_f mr_10 ?_)
  refine ym_name1 hm hN (br_f mr_10 (nm_r mr_yc ⟨vc, nm_r (e' := 8) (by rw [cc]; exact h0) (br_f (by decide) (br_f (by decide) ⟨vc, nm_r (e' := dy (t * 9 + (m + 1))) (by rw [cc]) ?_⟩))⟩))
  exact br_f (by decide) (br_f (by decide) (br_f (by decide) (ym_free (by omega) hp)))
end
theorem i_vc_deallocate {k : Nat} {u : SX} {v : SY} (I : i_Rel k u v) (hk : k + 5 ≤ 2564) (v1 : Int32) (v2 : Int32) : wpX_deallocate (fun r u' => wpY_deallocate (fun r' v' => r' = r ∧ i_Rel (k + 5) u' v') v v1 v2) u v1 v2 := by
  obtain ⟨T, P, N, Q, al, l, dc, ic, tx, dx, st, S, O, ar, lx, h, mi, mk, mp, wl, rc, ty, dy, qi, qk, qp, ly, rfl, rfl, hR⟩ := I
  obtain ⟨b1, b2, b3, b4, b5, b6⟩ := mr_Rb hR
  have F := mr_fin (kk := k + 5) (dc := dc) (ic := ic) (wl := wl) (rc := rc) hR rfl rfl rfl rfl
  rcases mr_tk (T := T) v1 (by omega) with hy | ⟨t, ht, rfl⟩
  · exact xm_deT hy (ym_deT hy ⟨rfl, F⟩)
  rcases mr_nk (N := N) v2 b4 with hn | ⟨m, hm, rfl⟩
  · exact xm_deN ht b1 hn (ym_deN ht b1 hn ⟨rfl, F⟩)
  have hI := hR.2.2.2.2.2.2.2.2
  have nn := hR.2.1 t m (by omega) (by omega)
  have tk := mr_Ntok (c := t * 9 + (m + 1)) hI.1 (by omega)
  have he : (16 : Nat) < 16 → ¬ mr_lv st 16 := fun q => absurd q (by omega)
  rcases tk with h0 | h0 | h0 | h0 | h0 | h0
  · exact xm_de01 ht b1 hm b4 (Or.inl (nn.1.trans h0)) (ym_de01 ht b1 hm b4 (Or.inl h0) ⟨rfl, F⟩)
  · exact xm_de01 ht b1 hm b4 (Or.inr (nn.1.trans h0)) (ym_de01 ht b1 hm b4 (Or.inr h0) ⟨rfl, F⟩)
  · obtain ⟨p, hp, hd, hl⟩ := mr_Ns hI.1 (c := t * 9 + (m + 1)) (by omega) (by rw [h0]; decide) (by rw [h0]; decide)
    obtain ⟨S', ar', ic', l', lx', mi', mk', mp', qi', qk', qp', ly', r, _, dX, dY⟩ := mr_dec (mr_Rf hR (t := t) (m := m) (by omega)) hp he ic
    exact xm_de2 ht b1 hm b4 (nn.1.trans h0) (nn.2.trans hd) (dX dc wl rc) (ym_de2 ht b1 hm b4 h0 hd (dY _ _ _ _ wl) ⟨rfl, mr_fin r rfl rfl rfl rfl⟩)
  · obtain ⟨p, hp, hd, hl⟩ := mr_Ns hI.1 (c := t * 9 + (m + 1)) (by omega) (by rw [h0]; decide) (by rw [h0]; decide)
    obtain ⟨S', ar', ic', l', lx', mi', mk', mp', qi', qk', qp', ly', r, _, dX, dY⟩ := mr_dec (mr_R31 hR ht hm h0) hp he ic
    exact xm_de3 ht b1 hm b4 (nn.1.trans h0) (nn.2.trans hd) (dX dc wl rc) (ym_de3 ht b1 hm b4 h0 hd (dY _ _ _ _ wl) ⟨rfl, mr_fin r rfl rfl rfl rfl⟩)
  · obtain ⟨p, hp, hd, hl⟩ := mr_Ns hI.1 (c := t * 9 + (m + 1)) (by omega) (by rw [h0]; decide) (by rw [h0]; decide)
    have r := mr_RO (v := O p - 1) (mr_Rf hR (t := t) (m := m) (by omega)) hl
    exact xm_de4 ht b1 hm b4 (nn.1.trans h0) (nn.2.trans hd) (by omega) hl (ym_de4 ht b1 hm b4 h0 hd (by omega) b3 hl ⟨rfl, mr_fin r rfl rfl rfl rfl⟩)
  · have r := mr_Rf hR (t := t) (m := m) (by omega)
    exact xm_de8 ht b1 hm b4 (nn.1.trans h0) (ym_de8 ht b1 hm b4 h0 ⟨rfl, mr_fin r rfl rfl rfl rfl⟩)
