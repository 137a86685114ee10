/-! allocate -/
section
variable {W W' : Nat → Prop} {e off T P N Q al p n t m x c D : Nat} {l : Nat → Nat} {dc ic r0 r1 r2 r3 : Int32} {tx dx st S O ar lx h mi mk mp wl rc ty dy qi qk qp ly : Nat → Int32} {v w i k z : Int32}
theorem xm_alT {post : Int32 → SX → Prop} {y : Int32} (hy : y < 0 ∨ nI T ≤ y) (hp : post (-1) (nI T, nI P, nI N, nI Q, dc, nI al, ic, tx, dx, st, S, O, ar, lx, h, mi, mk, mp, wl, rc)) : wpX_allocate post (nI T, nI P, nI N, nI Q, dc, nI al, ic, tx, dx, st, S, O, ar, lx, h, mi, mk, mp, wl, rc) y := by
  unfold wpX_allocate
  exact xm_task0 hy (br_t rfl hp)
theorem xm_alP {post : Int32 → SX → Prop} (ht : t < T) (hT : T ≤ 4) (ha : P ≤ al) (hal : al ≤ 16) (hp : post (-4) (nI T, nI P, nI N, nI Q, dc, nI al, ic, tx, dx, st, S, O, ar, lx, h, mi, mk, mp, wl, rc)) : wpX_allocate post (nI T, nI P, nI N, nI Q, dc, nI al, ic, tx, dx, st, S, O, ar, lx, h, mi, mk, mp, wl, rc) (nI t) := by
  unfold wpX_allocate
  exact xm_task1 ht hT (br_f mr_10 (br_f (nI_nlt ha (by omega)) hp))
theorem xm_alN {post : Int32 → SX → Prop} (ht : t < T) (hT : T ≤ 4) (hN : N ≤ 8) (ha : al < P) (hP : P ≤ 16) (hNN : mr_NN tx dx ty dy) (hr : mr_lst (fun n => ty (t * 9 + n) = 0) N 0) (hp : post (-4) (nI T, nI P, nI N, nI Q, dc, nI al, ic, tx, dx, st, S, O, ar, lx, h, mi, mk, mp, wl, rc)) : wpX_allocate post (nI T, nI P, nI N, nI Q, dc, nI al, ic, tx, dx, st, S, O, ar, lx, h, mi, mk, mp, wl, rc) (nI t) := by
  unfold wpX_allocate
  refine xm_task1 ht hT (br_f mr_10 (br_t (nI_lt ha (by omega)) ?_))
  exact xm_lf (by omega) hN hNN hr (br_t nI_0 hp)
theorem xm_al1 {post : Int32 → SX → Prop} (ht : t < T) (hT : T ≤ 4) (hN : N ≤ 8) (ha : al < P) (hP : P ≤ 16) (hNN : mr_NN tx dx ty dy) (hm : m < N) (hr : mr_lst (fun n => ty (t * 9 + n) = 0) N (m + 1)) (hp : post (nI (m + 1)) (nI T, nI P, nI N, nI Q, dc, nI (al + 1), ic, upd tx (t * 8 + m) 1, upd dx (t * 8 + m) (nI al), upd st al 1, S, O, ar, lx, h, mi, mk, mp, wl, rc)) : wpX_allocate post (nI T, nI P, nI N, nI Q, dc, nI al, ic, tx, dx, st, S, O, ar, lx, h, mi, mk, mp, wl, rc) (nI t) := by
  have c1 : (nI al).toNatClampNeg = al := nI_clamp (by omega)
  have v2 : vp_in (nI (t * 8 + m)) 32 := vp_in_nI (by omega) (by omega)
  have c2 : (nI (t * 8 + m)).toNatClampNeg = t * 8 + m := nI_clamp (by omega)
  unfold wpX_allocate
  refine xm_task1 ht hT (br_f mr_10 (br_t (nI_lt ha (by omega)) ?_))
  refine xm_lf (by omega) hN hNN hr (br_f (nI_ne0 (by omega) (by omega)) (nm_r (nI_1 al) ⟨vp_in_nI (by omega) (by omega), nm_r (e' := upd st al 1) (by rw [c1]) ?_⟩))
  exact xm_cell ⟨v2, nm_r (e' := upd tx (t * 8 + m) 1) (by rw [c2]) ⟨v2, nm_r (e' := upd dx (t * 8 + m) (nI al)) (by rw [c2]) hp⟩⟩
theorem ym_alT {post : Int32 → SY → Prop} {y : Int32} (hy : y < 0 ∨ nI T ≤ y) (hp : post (-1) (nI T, nI P, nI N, nI Q, nI al, ic, r0, r1, r2, r3, ty, dy, st, S, O, ar, qi, qk, qp, ly, wl)) : wpY_allocate post (nI T, nI P, nI N, nI Q, nI al, ic, r0, r1, r2, r3, ty, dy, st, S, O, ar, qi, qk, qp, ly, wl) y := by
  unfold wpY_allocate
  exact ym_task0 hy (br_t rfl hp)
theorem ym_alP {post : Int32 → SY → Prop} (ht : t < T) (hT : T ≤ 4) (ha : P ≤ al) (hal : al ≤ 16) (hp : post (-4) (nI T, nI P, nI N, nI Q, nI al, ic, r0, r1, r2, r3, ty, dy, st, S, O, ar, qi, qk, qp, ly, wl)) : wpY_allocate post (nI T, nI P, nI N, nI Q, nI al, ic, r0, r1, r2, r3, ty, dy, st, S, O, ar, qi, qk, qp, ly, wl) (nI t) := by
  unfold wpY_allocate
  exact ym_task1 ht hT (br_f mr_10 (br_f (nI_nlt ha (by omega)) hp))
theorem ym_alN {post : Int32 → SY → Prop} (ht : t < T) (hT : T ≤ 4) (hN : N ≤ 8) (ha : al < P) (hP : P ≤ 16) (hr : mr_lst (fun n => ty (t * 9 + n) = 0) N 0) (hp : post (-4) (nI T, nI P, nI N, nI Q, nI al, ic, r0, r1, r2, r3, ty, dy, st, S, O, ar, qi, qk, qp, ly, wl)) : wpY_allocate post (nI T, nI P, nI N, nI Q, nI al, ic, r0, r1, r2, r3, ty, dy, st, S, O, ar, qi, qk, qp, ly, wl) (nI t) := by
  unfold wpY_allocate
  refine ym_task1 ht hT (br_f mr_10 (br_t (nI_lt ha (by omega)) ?_))
  exact ym_lf (by omega) hN hr (br_t nI_0 hp)
theorem ym_al1 {post : Int32 → SY → Prop} (ht : t < T) (hT : T ≤ 4) (hN : N ≤ 8) (ha : al < P) (hP : P ≤ 16) (hm : m < N) (hr : mr_lst (fun n => ty (t * 9 + n) = 0) N (m + 1)) (z1 : S al = 0) (z2 : O al = 0) (z3 : ar al = 0) (z4 : ly al = 0) (hp : post (nI (m + 1)) (nI T, nI P, nI N, nI Q, nI (al + 1), ic, r0, r1, r2, r3, upd ty (t * 9 + (m + 1)) 1, upd dy (t * 9 + (m + 1)) (nI al), upd st al 1, S, O, ar, qi, qk, qp, ly, wl)) : wpY_allocate post (nI T, nI P, nI N, nI Q, nI al, ic, r0, r1, r2, r3, ty, dy, st, S, O, ar, qi, qk, qp, ly, wl) (nI t) := by
  have c1 : (nI al).toNatClampNeg = al := nI_clamp (by omega)
  have v1 : vp_in (nI al) 16 := vp_in_nI (by omega) (by omega)
  have v2 := mr_yv (t := t) (n := m + 1) (by omega) (by omega)
  have c2 := mr_ycl (t := t) (n := m + 1) (by omega) (by omega)
  unfold wpY_allocate
  refine ym_task1 ht hT (br_f mr_10 (br_t (nI_lt ha (by omega)) ?_))
  refine ym_lf (by omega) hN hr (br_f (nI_ne0 (by omega) (by omega)) (nm_r (nI_1 al) ⟨v1, nm_r (e' := upd st al 1) (by rw [c1]) ⟨v1, nm_r (e' := S) (by rw [c1, mr_ui z1]) ⟨v1, nm_r (e' := O) (by rw [c1, mr_ui z2]) ⟨v1, nm_r (e' := ar) (by rw [c1, mr_nb0, mr_ui z3]) ⟨v1, nm_r (e' := ly) (by rw [c1, mr_ui z4]) ?_⟩⟩⟩⟩⟩))
  exact ⟨v2, nm_r (e' := upd ty (t * 9 + (m + 1)) 1) (by rw [c2]) ⟨v2, nm_r (e' := upd dy (t * 9 + (m + 1)) (nI al)) (by rw [c2]) hp⟩⟩
end
theorem i_vc_allocate {k : Nat} {u : SX} {v : SY} (I : i_Rel k u v) (hk : k + 5 ≤ 2564) (v1 : Int32) : wpX_allocate (fun r u' => wpY_allocate (fun r' v' => r' = r ∧ i_Rel (k + 5) u' v') v v1) u v1 := by
  obtain ⟨T, P, N, Q, al, l, dc, ic, tx, dx, st, S, O, ar, lx, h, mi, mk, mp, wl, rc, ty, dy, qi, qk, qp, ly, rfl, rfl, hR⟩ := I
  obtain ⟨b1, b2, b3, b4, b5, b6⟩ := mr_Rb hR
  have F := mr_fin (kk := k + 5) (dc := dc) (ic := ic) (wl := wl) (rc := rc) hR rfl rfl rfl rfl
  rcases mr_tk (T := T) v1 (by omega) with hy | ⟨t, ht, rfl⟩
  · exact xm_alT hy (ym_alT hy ⟨rfl, F⟩)
  by_cases ha : al < P
  · obtain ⟨r, hr⟩ := mr_lstE (fun n => ty (t * 9 + n) = 0) N
    rcases mr_lstL hr with rfl | ⟨m, hm, rfl, hz⟩
    · exact xm_alN ht b1 b4 ha b3 hR.2.1 hr (ym_alN ht b1 b4 ha b3 hr ⟨rfl, F⟩)
    · have hI := hR.2.2.2.2.2.2.2.2
      have s0 := (hI.2.2.1 al (by omega)).1 (Nat.le_refl _)
      have nl : ¬ mr_lv st al := by
        unfold mr_lv
        rw [s0]
        decide
      obtain ⟨z1, z2, z3⟩ := (hI.2.2.1 al (by omega)).2.1 nl
      obtain ⟨e1, e2, e3, e4⟩ := mr_lxy hR (p := al) (by omega)
      have z4 : ly al = 0 := by
        rw [e2, e4 nl]
        exact nI_0
      exact xm_al1 ht b1 b4 ha b3 hR.2.1 hm hr (ym_al1 ht b1 b4 ha b3 hm hr z1 z2 z3 z4 ⟨rfl, mr_fin (mr_Rnew hR ha ht hm) rfl rfl rfl rfl⟩)
  · exact xm_alP ht b1 (by omega) (by omega) (ym_alP ht b1 (by omega) (by omega) ⟨rfl, F⟩)
