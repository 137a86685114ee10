/-! giveSend -/
section
variable {W W' : Nat → Prop} {e off T P N Q al p n t m x c D : Nat} {l : Nat → Nat} {dc ic r0 r1 r2 r3 : Int32} {tx dx st S O ar lx h mi mk mp wl rc ty dy qi qk qp ly : Nat → Int32} {v w i k z : Int32}
variable {t2 m2 : Nat} {u : SX}
theorem xm_gsA {post : Int32 → SX → Prop} {y3 : Int32} (ht : t < T) (hT : T ≤ 4) (hm : m < N) (hN : N ≤ 8) (h0 : ¬ tx (t * 8 + m) &&& 1 = 0) (hy : y3 < 0 ∨ nI T ≤ y3) (hp : post (-3) (nI T, nI P, nI N, nI Q, dc, nI al, ic, tx, dx, st, S, O, ar, lx, h, mi, mk, mp, wl, rc)) : wpX_giveSend post (nI T, nI P, nI N, nI Q, dc, nI al, ic, tx, dx, st, S, O, ar, lx, h, mi, mk, mp, wl, rc) (nI t) (nI (m + 1)) y3 := by
  unfold wpX_giveSend
  refine xm_rr0 ht hT hm hN h0 (br_t rfl ?_)
  exact xm_task0 hy (br_t rfl hp)
theorem xm_gsF {post : Int32 → SX → Prop} (ht : t < T) (hT : T ≤ 4) (hm : m < N) (hN : N ≤ 8) (h0 : ¬ tx (t * 8 + m) &&& 1 = 0) (ht2 : t2 < T) (hd : dx (t * 8 + m) = nI p) (hX : ∀ q : Int32 → Prop, q 0 → wpX_copyoutName q (nI T, nI P, nI N, nI Q, dc, nI al, ic, tx, dx, st, S, O, ar, lx, h, mi, mk, mp, wl, rc) (nI t2) 1 (nI p)) (hp : post (-4) (nI T, nI P, nI N, nI Q, dc, nI al, ic, tx, dx, st, S, O, ar, lx, h, mi, mk, mp, wl, rc)) : wpX_giveSend post (nI T, nI P, nI N, nI Q, dc, nI al, ic, tx, dx, st, S, O, ar, lx, h, mi, mk, mp, wl, rc) (nI t) (nI (m + 1)) (nI t2) := by
  unfold wpX_giveSend
  refine xm_rr0 ht hT hm hN h0 (br_t rfl ?_)
  refine xm_task1 ht2 hT (br_f mr_10 ?_)
  refine xm_cell ⟨vp_in_nI (by omega) (by omega), nm_r (e' := nI p) (by rw [nI_clamp (by omega)]; exact hd) ?_⟩
  exact hX _ (br_t rfl hp)
theorem xm_gs1 {post : Int32 → SX → Prop} (ht : t < T) (hT : T ≤ 4) (hm : m < N) (hN : N ≤ 8) (h0 : ¬ tx (t * 8 + m) &&& 1 = 0) (ht2 : t2 < T) (hd : dx (t * 8 + m) = nI p) (h16 : p < 16) (hm2 : m2 < N) (hX : ∀ q : Int32 → Prop, q (nI (m2 + 1)) → wpX_copyoutName q (nI T, nI P, nI N, nI Q, dc, nI al, ic, tx, dx, st, S, O, ar, lx, h, mi, mk, mp, wl, rc) (nI t2) 1 (nI p)) (hC : ∀ q : SX → Prop, q u → wpX_copyOut q (nI T, nI P, nI N, nI Q, dc, nI al, ic, tx, dx, st, upd S p (S p + 1), O, ar, lx, h, mi, mk, mp, wl, rc) (nI t2) (nI (m2 + 1)) 1 (nI p)) (hp : post (nI (m2 + 1)) u) : wpX_giveSend post (nI T, nI P, nI N, nI Q, dc, nI al, ic, tx, dx, st, S, O, ar, lx, h, mi, mk, mp, wl, rc) (nI t) (nI (m + 1)) (nI t2) := by
  have v1 : vp_in (nI p) 16 := vp_in_nI h16 (by omega)
  have c1 : (nI p).toNatClampNeg = p := nI_clamp (by omega)
  unfold wpX_giveSend
  refine xm_rr0 ht hT hm hN h0 (br_t rfl ?_)
  refine xm_task1 ht2 hT (br_f mr_10 ?_)
  refine xm_cell ⟨vp_in_nI (by omega) (by omega), nm_r (e' := nI p) (by rw [nI_clamp (by omega)]; exact hd) ?_⟩
  refine hX _ (br_f (nI_ne0 (by omega) (by omega)) ⟨v1, v1, nm_r (e' := upd S p (S p + 1)) (by rw [c1]) ?_⟩)
  refine hC _ ?_
  obtain ⟨_, _, _, _, _, _, _, _, _, _, _, _, _, _, _, _, _, _, _, _⟩ := u
  exact hp
theorem ym_gsA {post : Int32 → SY → Prop} {y3 : Int32} (ht : t < T) (hT : T ≤ 4) (hm : m < N) (hN : N ≤ 8) (h0 : ¬ ty (t * 9 + (m + 1)) &&& 1 = 0) (hy : y3 < 0 ∨ nI T ≤ y3) (hp : post (-3) (nI T, nI P, nI N, nI Q, nI al, ic, r0, r1, r2, r3, ty, dy, st, S, O, ar, qi, qk, qp, ly, wl)) : wpY_giveSend post (nI T, nI P, nI N, nI Q, nI al, ic, r0, r1, r2, r3, ty, dy, st, S, O, ar, qi, qk, qp, ly, wl) (nI t) (nI (m + 1)) y3 := by
  have v2 := mr_yv (t := t) (n := m + 1) (by omega) (by omega)
  have c2 := mr_ycl (t := t) (n := m + 1) (by omega) (by omega)
  unfold wpY_giveSend
  refine ym_task1 ht hT (br_f mr_10 ?_)
  refine ym_name1 hm hN (br_f mr_10 ⟨v2, br_f (by rw [c2]; exact h0) ?_⟩)
  exact ym_task0 hy (br_t rfl hp)
theorem ym_gs0 {post : Int32 → SY → Prop} {s1 s2 : Nat} (ht : t < T) (hT : T ≤ 4) (hm : m < N) (hN : N ≤ 8) (h0 : ¬ ty (t * 9 + (m + 1)) &&& 1 = 0) (ht2 : t2 < T) (hd : dy (t * 9 + (m + 1)) = nI p) (h1 : p < P) (hP : P ≤ 16) (hl : mr_lv st p) (hr : mr_lst (mr_rs ty dy t2 p) N s1) (hr2 : mr_lst (fun n => ty (t2 * 9 + n) = 0) N s2) (hF : (if s1 = 0 then s2 else s1) = 0 → post (-4) (nI T, nI P, nI N, nI Q, nI al, ic, r0, r1, r2, r3, ty, dy, st, S, O, ar, qi, qk, qp, ly, wl)) (hG : ¬ (if s1 = 0 then s2 else s1) = 0 → wpY_copyout post (nI T, nI P, nI N, nI Q, nI al, ic, r0, r1, r2, r3, ty, dy, st, upd S p (S p + 1), O, ar, qi, qk, qp, ly, wl) (nI t2) 1 (nI p)) : wpY_giveSend post (nI T, nI P, nI N, nI Q, nI al, ic, r0, r1, r2, r3, ty, dy, st, S, O, ar, qi, qk, qp, ly, wl) (nI t) (nI (m + 1)) (nI t2) := by
  have v2 := mr_yv (t := t) (n := m + 1) (by omega) (by omega)
  have c2 := mr_ycl (t := t) (n := m + 1) (by omega) (by omega)
  have v1 : vp_in (nI p) 16 := vp_in_nI (by omega) (by omega)
  have c1 : (nI p).toNatClampNeg = p := nI_clamp (by omega)
  unfold wpY_giveSend
  refine ym_task1 ht hT (br_f mr_10 ?_)
  refine ym_name1 hm hN (br_f mr_10 ⟨v2, br_f (by rw [c2]; exact h0) ?_⟩)
  refine ym_task1 ht2 hT (br_f mr_10 ⟨v2, nm_r (e' := nI p) (by rw [c2]; exact hd) ?_⟩)
  refine ym_nn1 (by omega) hN h1 hP hl hr ?_
  have G : wpY_copyout post (nI T, nI P, nI N, nI Q, nI al, ic, r0, r1, r2, r3, ty, dy, st, upd S p (S p + 1), O, ar, qi, qk, qp, ly, wl) (nI t2) 1 (nI p) → wY_giveSend_83 post (nI t2) (nI p) (nI T) (nI P) (nI N) (nI Q) (nI al) ic r0 r1 r2 r3 ty dy st S O ar qi qk qp ly wl := fun q => ⟨v1, v1, nm_r (e' := upd S p (S p + 1)) (by rw [c1]) q⟩
  by_cases z : s1 = 0
  · rw [if_pos z]
    rw [if_pos z] at hF hG
    refine br_f mr_10 (ym_lf (by omega) hN hr2 ?_)
    by_cases z2 : s2 = 0
    · exact br_t (by rw [z2]; exact nI_0) (hF z2)
    · have l1 : s2 ≤ N := by
        rcases hr2 with a | a
        · omega
        · omega
      exact br_f (nI_ne0 (by omega) (by omega)) (G (hG z2))
  · rw [if_neg z]
    rw [if_neg z] at hF hG
    exact br_t rfl (G (hG z))
end
theorem i_vc_giveSend {k : Nat} {u : SX} {v : SY} (I : i_Rel k u v) (hk : k + 5 ≤ 2564) (v1 : Int32) (v2 : Int32) (v3 : Int32) : wpX_giveSend (fun r u' => wpY_giveSend (fun r' v' => r' = r ∧ i_Rel (k + 5) u' v') v v1 v2 v3) u v1 v2 v3 := by
  obtain ⟨T, P, N, Q, al, l, dc, ic, tx, dx, st, S, O, ar, lx, h, mi, mk, mp, wl, rc, ty, dy, qi, qk, qp, ly, rfl, rfl, hR⟩ := I
  obtain ⟨b1, b2, b3, b4, b5, b6⟩ := mr_Rb hR
  have F := mr_fin (kk := k + 5) (dc := dc) (ic := ic) (wl := wl) (rc := rc) hR rfl rfl rfl rfl
  rcases mr_tk (T := T) v1 (by omega) with hy | ⟨t, ht, rfl⟩
  · exact xm_giveSendT hy (ym_giveSendT hy ⟨rfl, F⟩)
  rcases mr_nk (N := N) v2 b4 with hn | ⟨m, hm, rfl⟩
  · exact xm_giveSendN ht b1 hn (ym_giveSendN ht b1 hn ⟨rfl, F⟩)
  have hI := hR.2.2.2.2.2.2.2.2
  have nn := hR.2.1 t m (by omega) (by omega)
  have tk := mr_Ntok (c := t * 9 + (m + 1)) hI.1 (by omega)
  by_cases hr : ty (t * 9 + (m + 1)) &&& 1 = 0
  · exact xm_giveSendF ht b1 hm b4 (by rw [nn.1]; exact hr) (ym_giveSendF ht b1 hm b4 hr ⟨rfl, F⟩)
  · have hr' : ty (t * 9 + (m + 1)) = 1 ∨ ty (t * 9 + (m + 1)) = 3 := Classical.byContradiction (fun a => hr ((mr_a1 tk).mpr a))
    obtain ⟨p, hp, hd, hs⟩ := mr_Nr hI.1 (by omega) hr'
    have hl : mr_lv st p := Or.inl hs
    have X0 : ¬ tx (t * 8 + m) &&& 1 = 0 := by rw [nn.1]; exact hr
    rcases mr_tk (T := T) v3 (by omega) with hy | ⟨t2, ht2, rfl⟩
    · exact xm_gsA ht b1 hm b4 X0 hy (ym_gsA ht b1 hm b4 hr hy ⟨rfl, F⟩)
    · have hk36 : ∀ c, c < 36 → mr_tok (ty c) := fun c hc => mr_Ntok hI.1 hc
      obtain ⟨r1, q1⟩ := mr_lstE (mr_rs ty dy t2 p) N
      obtain ⟨r2, q2⟩ := mr_lstE (fun n => ty (t2 * 9 + n) = 0) N
      by_cases z : (if r1 = 0 then r2 else r1) = 0
      · refine xm_gsF ht b1 hm b4 X0 ht2 (nn.2.trans hd) (fun q hq => xm_con (by omega) b4 hR.2.1 hk36 q1 q2 (by decide) (by rw [z]; exact hq)) ?_
        exact ym_gs0 ht b1 hm b4 hr ht2 hd (by omega) b3 hl q1 q2 (fun _ => ⟨rfl, F⟩) (fun a => absurd z a)
      · obtain ⟨m2, e2⟩ : ∃ m2, (if r1 = 0 then r2 else r1) = m2 + 1 := ⟨(if r1 = 0 then r2 else r1) - 1, by omega⟩
        have hm2 : m2 < N := by
          have k1 : r1 ≤ N := by
            rcases q1 with a | a
            · omega
            · omega
          have k2 : r2 ≤ N := by
            rcases q2 with a | a
            · omega
            · omega
          by_cases z1 : r1 = 0
          · rw [if_pos z1] at e2
            omega
          · rw [if_neg z1] at e2
            omega
        have r := mr_RS (v := S p + 1) hR hl
        obtain ⟨tx', dx', ty', dy', S', ar', ic', l', lx', mi', mk', mp', qi', qk', qp', ly', r', dX, dY⟩ := mr_cp1 r (fun q => absurd q (by omega)) ht2 hp hl q1 q2 e2 ic
        exact xm_gs1 ht b1 hm b4 X0 ht2 (nn.2.trans hd) (by omega) hm2 (fun q hq => xm_con (by omega) b4 hR.2.1 hk36 q1 q2 (by decide) (by rw [e2]; exact hq)) (dX dc wl rc) (ym_gs0 ht b1 hm b4 hr ht2 hd (by omega) b3 hl q1 q2 (fun a => absurd a z) (fun _ => dY _ _ _ _ wl _ ⟨rfl, mr_fin r' rfl rfl rfl rfl⟩))
