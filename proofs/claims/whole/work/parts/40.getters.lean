/-! the getters -/
section
variable {W W' : Nat → Prop} {e off T P N Q al p n t m x c D : Nat} {l : Nat → Nat} {dc ic r0 r1 r2 r3 : Int32} {tx dx st S O ar lx h mi mk mp wl rc ty dy qi qk qp ly : Nat → Int32} {v w i k z : Int32}
theorem ym_ntT {post : Int32 → Prop} {y y2 : Int32} (hy : y < 0 ∨ nI T ≤ y) (hp : post 0) : wpY_nameType post (nI T, nI P, nI N, nI Q, nI al, ic, r0, r1, r2, r3, ty, dy, st, S, O, ar, qi, qk, qp, ly, wl) y y2 := by
  unfold wpY_nameType
  exact ym_task0 hy (br_t rfl hp)
theorem ym_nt0 {post : Int32 → Prop} {y : Int32} (ht : t < T) (hT : T ≤ 4) (hy : y < 1 ∨ nI N < y) (hp : post 0) : wpY_nameType post (nI T, nI P, nI N, nI Q, nI al, ic, r0, r1, r2, r3, ty, dy, st, S, O, ar, qi, qk, qp, ly, wl) (nI t) y := by
  unfold wpY_nameType
  refine ym_task1 ht hT (br_f mr_10 ?_)
  exact ym_name0 hy (br_t rfl hp)
theorem ym_nt1 {post : Int32 → Prop} (ht : t < T) (hT : T ≤ 4) (hm : m < N) (hN : N ≤ 8) (hp : post (ty (t * 9 + (m + 1)))) : wpY_nameType post (nI T, nI P, nI N, nI Q, nI al, ic, r0, r1, r2, r3, ty, dy, st, S, O, ar, qi, qk, qp, ly, wl) (nI t) (nI (m + 1)) := by
  unfold wpY_nameType
  refine ym_task1 ht hT (br_f mr_10 ?_)
  refine ym_name1 hm hN (br_f mr_10 ⟨mr_yv (by omega) (by omega), ?_⟩)
  rw [mr_ycl (by omega) (by omega)]
  exact hp
theorem ym_npT {post : Int32 → Prop} {y y2 : Int32} (hy : y < 0 ∨ nI T ≤ y) (hp : post (-1)) : wpY_namePort post (nI T, nI P, nI N, nI Q, nI al, ic, r0, r1, r2, r3, ty, dy, st, S, O, ar, qi, qk, qp, ly, wl) y y2 := by
  unfold wpY_namePort
  exact ym_task0 hy (br_t rfl hp)
theorem ym_np0 {post : Int32 → Prop} {y : Int32} (ht : t < T) (hT : T ≤ 4) (hy : y < 1 ∨ nI N < y) (hp : post (-1)) : wpY_namePort post (nI T, nI P, nI N, nI Q, nI al, ic, r0, r1, r2, r3, ty, dy, st, S, O, ar, qi, qk, qp, ly, wl) (nI t) y := by
  unfold wpY_namePort
  refine ym_task1 ht hT (br_f mr_10 ?_)
  exact ym_name0 hy (br_t rfl hp)
theorem ym_np1 {post : Int32 → Prop} (ht : t < T) (hT : T ≤ 4) (hm : m < N) (hN : N ≤ 8) (h0 : ty (t * 9 + (m + 1)) = 0 → dy (t * 9 + (m + 1)) = -1) (hp : post (dy (t * 9 + (m + 1)))) : wpY_namePort post (nI T, nI P, nI N, nI Q, nI al, ic, r0, r1, r2, r3, ty, dy, st, S, O, ar, qi, qk, qp, ly, wl) (nI t) (nI (m + 1)) := by
  have c1 := mr_ycl (t := t) (n := m + 1) (by omega) (by omega)
  have v1 := mr_yv (t := t) (n := m + 1) (by omega) (by omega)
  unfold wpY_namePort
  refine ym_task1 ht hT (br_f mr_10 ?_)
  refine ym_name1 hm hN (br_f mr_10 ⟨v1, ?_⟩)
  by_cases z : ty (t * 9 + (m + 1)) = 0
  · rw [h0 z] at hp
    exact br_t (by rw [c1]; exact z) hp
  · refine br_f (by rw [c1]; exact z) ⟨v1, ?_⟩
    rw [c1]
    exact hp
theorem xm_portState1 {post : Int32 → Prop} (h1 : p < P) (hP : P ≤ 16) (hp : post (st p)) : wpX_portState post (nI T, nI P, nI N, nI Q, dc, nI al, ic, tx, dx, st, S, O, ar, lx, h, mi, mk, mp, wl, rc) (nI p) := by
  unfold wpX_portState
  refine xm_port1 h1 hP (br_f mr_10 ⟨vp_in_nI (by omega) (by omega), ?_⟩)
  rw [nI_clamp (by omega)]
  exact hp
theorem xm_portState0 {post : Int32 → Prop} {y : Int32} (hy : y < 0 ∨ nI P ≤ y) (hp : post 0) : wpX_portState post (nI T, nI P, nI N, nI Q, dc, nI al, ic, tx, dx, st, S, O, ar, lx, h, mi, mk, mp, wl, rc) y := by
  unfold wpX_portState
  exact xm_port0 hy (br_t rfl hp)
theorem xm_sendRights1 {post : Int32 → Prop} (h1 : p < P) (hP : P ≤ 16) (hp : post (S p)) : wpX_sendRights post (nI T, nI P, nI N, nI Q, dc, nI al, ic, tx, dx, st, S, O, ar, lx, h, mi, mk, mp, wl, rc) (nI p) := by
  unfold wpX_sendRights
  refine xm_port1 h1 hP (br_f mr_10 ⟨vp_in_nI (by omega) (by omega), ?_⟩)
  rw [nI_clamp (by omega)]
  exact hp
theorem xm_sendRights0 {post : Int32 → Prop} {y : Int32} (hy : y < 0 ∨ nI P ≤ y) (hp : post 0) : wpX_sendRights post (nI T, nI P, nI N, nI Q, dc, nI al, ic, tx, dx, st, S, O, ar, lx, h, mi, mk, mp, wl, rc) y := by
  unfold wpX_sendRights
  exact xm_port0 hy (br_t rfl hp)
theorem xm_sendOnceRights1 {post : Int32 → Prop} (h1 : p < P) (hP : P ≤ 16) (hp : post (O p)) : wpX_sendOnceRights post (nI T, nI P, nI N, nI Q, dc, nI al, ic, tx, dx, st, S, O, ar, lx, h, mi, mk, mp, wl, rc) (nI p) := by
  unfold wpX_sendOnceRights
  refine xm_port1 h1 hP (br_f mr_10 ⟨vp_in_nI (by omega) (by omega), ?_⟩)
  rw [nI_clamp (by omega)]
  exact hp
theorem xm_sendOnceRights0 {post : Int32 → Prop} {y : Int32} (hy : y < 0 ∨ nI P ≤ y) (hp : post 0) : wpX_sendOnceRights post (nI T, nI P, nI N, nI Q, dc, nI al, ic, tx, dx, st, S, O, ar, lx, h, mi, mk, mp, wl, rc) y := by
  unfold wpX_sendOnceRights
  exact xm_port0 hy (br_t rfl hp)
theorem xm_queueLength1 {post : Int32 → Prop} (h1 : p < P) (hP : P ≤ 16) (hp : post (lx p)) : wpX_queueLength post (nI T, nI P, nI N, nI Q, dc, nI al, ic, tx, dx, st, S, O, ar, lx, h, mi, mk, mp, wl, rc) (nI p) := by
  unfold wpX_queueLength
  refine xm_port1 h1 hP (br_f mr_10 ⟨vp_in_nI (by omega) (by omega), ?_⟩)
  rw [nI_clamp (by omega)]
  exact hp
theorem xm_queueLength0 {post : Int32 → Prop} {y : Int32} (hy : y < 0 ∨ nI P ≤ y) (hp : post 0) : wpX_queueLength post (nI T, nI P, nI N, nI Q, dc, nI al, ic, tx, dx, st, S, O, ar, lx, h, mi, mk, mp, wl, rc) y := by
  unfold wpX_queueLength
  exact xm_port0 hy (br_t rfl hp)
theorem ym_sendRights1 {post : Int32 → Prop} (h1 : p < P) (hP : P ≤ 16) (h0 : ¬ mr_lv st p → S p = 0) (hp : post (S p)) : wpY_sendRights post (nI T, nI P, nI N, nI Q, nI al, ic, r0, r1, r2, r3, ty, dy, st, S, O, ar, qi, qk, qp, ly, wl) (nI p) := by
  unfold wpY_sendRights
  by_cases hl : mr_lv st p
  · refine ym_live1 h1 hP hl (br_f mr_10 ⟨vp_in_nI (by omega) (by omega), ?_⟩)
    rw [nI_clamp (by omega)]
    exact hp
  · rw [h0 hl] at hp
    exact ym_live0 (by omega) hP hl (br_t rfl hp)
theorem ym_sendRights0 {post : Int32 → Prop} {y : Int32} (hy : y < 0 ∨ nI P ≤ y) (hp : post 0) : wpY_sendRights post (nI T, nI P, nI N, nI Q, nI al, ic, r0, r1, r2, r3, ty, dy, st, S, O, ar, qi, qk, qp, ly, wl) y := by
  unfold wpY_sendRights
  exact ym_liveN hy (br_t rfl hp)
theorem ym_sendOnceRights1 {post : Int32 → Prop} (h1 : p < P) (hP : P ≤ 16) (h0 : ¬ mr_lv st p → O p = 0) (hp : post (O p)) : wpY_sendOnceRights post (nI T, nI P, nI N, nI Q, nI al, ic, r0, r1, r2, r3, ty, dy, st, S, O, ar, qi, qk, qp, ly, wl) (nI p) := by
  unfold wpY_sendOnceRights
  by_cases hl : mr_lv st p
  · refine ym_live1 h1 hP hl (br_f mr_10 ⟨vp_in_nI (by omega) (by omega), ?_⟩)
    rw [nI_clamp (by omega)]
    exact hp
  · rw [h0 hl] at hp
    exact ym_live0 (by omega) hP hl (br_t rfl hp)
theorem ym_sendOnceRights0 {post : Int32 → Prop} {y : Int32} (hy : y < 0 ∨ nI P ≤ y) (hp : post 0) : wpY_sendOnceRights post (nI T, nI P, nI N, nI Q, nI al, ic, r0, r1, r2, r3, ty, dy, st, S, O, ar, qi, qk, qp, ly, wl) y := by
  unfold wpY_sendOnceRights
  exact ym_liveN hy (br_t rfl hp)
theorem ym_queueLength1 {post : Int32 → Prop} (h1 : p < P) (hP : P ≤ 16) (h0 : ¬ mr_lv st p → ly p = 0) (hp : post (ly p)) : wpY_queueLength post (nI T, nI P, nI N, nI Q, nI al, ic, r0, r1, r2, r3, ty, dy, st, S, O, ar, qi, qk, qp, ly, wl) (nI p) := by
  unfold wpY_queueLength
  by_cases hl : mr_lv st p
  · refine ym_live1 h1 hP hl (br_f mr_10 ⟨vp_in_nI (by omega) (by omega), ?_⟩)
    rw [nI_clamp (by omega)]
    exact hp
  · rw [h0 hl] at hp
    exact ym_live0 (by omega) hP hl (br_t rfl hp)
theorem ym_queueLength0 {post : Int32 → Prop} {y : Int32} (hy : y < 0 ∨ nI P ≤ y) (hp : post 0) : wpY_queueLength post (nI T, nI P, nI N, nI Q, nI al, ic, r0, r1, r2, r3, ty, dy, st, S, O, ar, qi, qk, qp, ly, wl) y := by
  unfold wpY_queueLength
  exact ym_liveN hy (br_t rfl hp)
theorem ym_portState1 {post : Int32 → Prop} (h1 : p < P) (hP : P ≤ 16) (hp : post (st p)) : wpY_portState post (nI T, nI P, nI N, nI Q, nI al, ic, r0, r1, r2, r3, ty, dy, st, S, O, ar, qi, qk, qp, ly, wl) (nI p) := by
  unfold wpY_portState
  refine br_f (nI_pos (by omega)) (br_t (nI_lt h1 (by omega)) ⟨vp_in_nI (by omega) (by omega), ?_⟩)
  rw [nI_clamp (by omega)]
  exact hp
theorem ym_portState0 {post : Int32 → Prop} {y : Int32} (hy : y < 0 ∨ nI P ≤ y) (hp : post 0) : wpY_portState post (nI T, nI P, nI N, nI Q, nI al, ic, r0, r1, r2, r3, ty, dy, st, S, O, ar, qi, qk, qp, ly, wl) y := by
  unfold wpY_portState
  by_cases a1 : y < 0
  · exact br_t a1 hp
  · exact br_f a1 (br_f (Int32.not_lt.mpr (hy.resolve_left a1)) hp)
end
theorem i_vc_nameType {k : Nat} {u : SX} {v : SY} (I : i_Rel k u v) (hk : k + 5 ≤ 2564) (v1 : Int32) (v2 : Int32) : wpX_nameType (fun r => wpY_nameType (fun r' => r' = r ∧ i_Rel (k + 5) u v) v v1 v2) u v1 v2 := by
  obtain ⟨T, P, N, Q, al, l, dc, ic, tx, dx, st, S, O, ar, lx, h, mi, mk, mp, wl, rc, ty, dy, qi, qk, qp, ly, rfl, rfl, hR⟩ := I
  obtain ⟨b1, b2, b3, b4, b5, b6⟩ := mr_Rb hR
  have F := mr_fin (kk := k + 5) (dc := dc) (ic := ic) (wl := wl) (rc := rc) hR rfl rfl rfl rfl
  rcases mr_tk (T := T) v1 (by omega) with hy | ⟨t, ht, rfl⟩
  · exact xm_ntT hy (ym_ntT hy ⟨rfl, F⟩)
  rcases mr_nk (N := N) v2 b4 with hn | ⟨m, hm, rfl⟩
  · exact xm_nt0 ht b1 hn (ym_nt0 ht b1 hn ⟨rfl, F⟩)
  · exact xm_nt1 ht b1 hm b4 (ym_nt1 ht b1 hm b4 ⟨(hR.2.1 t m (by omega) (by omega)).1.symm, F⟩)
theorem i_vc_namePort {k : Nat} {u : SX} {v : SY} (I : i_Rel k u v) (hk : k + 5 ≤ 2564) (v1 : Int32) (v2 : Int32) : wpX_namePort (fun r => wpY_namePort (fun r' => r' = r ∧ i_Rel (k + 5) u v) v v1 v2) u v1 v2 := by
  obtain ⟨T, P, N, Q, al, l, dc, ic, tx, dx, st, S, O, ar, lx, h, mi, mk, mp, wl, rc, ty, dy, qi, qk, qp, ly, rfl, rfl, hR⟩ := I
  obtain ⟨b1, b2, b3, b4, b5, b6⟩ := mr_Rb hR
  have F := mr_fin (kk := k + 5) (dc := dc) (ic := ic) (wl := wl) (rc := rc) hR rfl rfl rfl rfl
  rcases mr_tk (T := T) v1 (by omega) with hy | ⟨t, ht, rfl⟩
  · exact xm_npT hy (ym_npT hy ⟨rfl, F⟩)
  rcases mr_nk (N := N) v2 b4 with hn | ⟨m, hm, rfl⟩
  · exact xm_np0 ht b1 hn (ym_np0 ht b1 hn ⟨rfl, F⟩)
  · exact xm_np1 ht b1 hm b4 (ym_np1 ht b1 hm b4 (fun z => mr_Nf hR.2.2.2.2.2.2.2.2.1 (by omega) z) ⟨(hR.2.1 t m (by omega) (by omega)).2.symm, F⟩)
theorem i_vc_portState {k : Nat} {u : SX} {v : SY} (I : i_Rel k u v) (hk : k + 5 ≤ 2564) (v1 : Int32) : wpX_portState (fun r => wpY_portState (fun r' => r' = r ∧ i_Rel (k + 5) u v) v v1) u v1 := by
  obtain ⟨T, P, N, Q, al, l, dc, ic, tx, dx, st, S, O, ar, lx, h, mi, mk, mp, wl, rc, ty, dy, qi, qk, qp, ly, rfl, rfl, hR⟩ := I
  obtain ⟨b1, b2, b3, b4, b5, b6⟩ := mr_Rb hR
  have F := mr_fin (kk := k + 5) (dc := dc) (ic := ic) (wl := wl) (rc := rc) hR rfl rfl rfl rfl
  rcases mr_tk (T := P) v1 (by omega) with hy | ⟨p, hp, rfl⟩
  · exact xm_portState0 hy (ym_portState0 hy ⟨rfl, F⟩)
  · exact xm_portState1 hp b3 (ym_portState1 hp b3 ⟨rfl, F⟩)
theorem i_vc_sendRights {k : Nat} {u : SX} {v : SY} (I : i_Rel k u v) (hk : k + 5 ≤ 2564) (v1 : Int32) : wpX_sendRights (fun r => wpY_sendRights (fun r' => r' = r ∧ i_Rel (k + 5) u v) v v1) u v1 := by
  obtain ⟨T, P, N, Q, al, l, dc, ic, tx, dx, st, S, O, ar, lx, h, mi, mk, mp, wl, rc, ty, dy, qi, qk, qp, ly, rfl, rfl, hR⟩ := I
  obtain ⟨b1, b2, b3, b4, b5, b6⟩ := mr_Rb hR
  have F := mr_fin (kk := k + 5) (dc := dc) (ic := ic) (wl := wl) (rc := rc) hR rfl rfl rfl rfl
  rcases mr_tk (T := P) v1 (by omega) with hy | ⟨p, hp, rfl⟩
  · exact xm_sendRights0 hy (ym_sendRights0 hy ⟨rfl, F⟩)
  · exact xm_sendRights1 hp b3 (ym_sendRights1 hp b3 (fun z => ((hR.2.2.2.2.2.2.2.2.2.2.1 p (by omega)).2.1 z).1) ⟨rfl, F⟩)
theorem i_vc_sendOnceRights {k : Nat} {u : SX} {v : SY} (I : i_Rel k u v) (hk : k + 5 ≤ 2564) (v1 : Int32) : wpX_sendOnceRights (fun r => wpY_sendOnceRights (fun r' => r' = r ∧ i_Rel (k + 5) u v) v v1) u v1 := by
  obtain ⟨T, P, N, Q, al, l, dc, ic, tx, dx, st, S, O, ar, lx, h, mi, mk, mp, wl, rc, ty, dy, qi, qk, qp, ly, rfl, rfl, hR⟩ := I
  obtain ⟨b1, b2, b3, b4, b5, b6⟩ := mr_Rb hR
  have F := mr_fin (kk := k + 5) (dc := dc) (ic := ic) (wl := wl) (rc := rc) hR rfl rfl rfl rfl
  rcases mr_tk (T := P) v1 (by omega) with hy | ⟨p, hp, rfl⟩
  · exact xm_sendOnceRights0 hy (ym_sendOnceRights0 hy ⟨rfl, F⟩)
  · exact xm_sendOnceRights1 hp b3 (ym_sendOnceRights1 hp b3 (fun z => ((hR.2.2.2.2.2.2.2.2.2.2.1 p (by omega)).2.1 z).2.1) ⟨rfl, F⟩)
theorem mr_lxy {p T P N Q al : Nat} {l : Nat → Nat} {tx dx st S O ar lx h mi mk mp ty dy qi qk qp ly : Nat → Int32} (hR : mr_R (fun _ => False) 16 0 T P N Q al l tx dx st S O ar lx h mi mk mp ty dy qi qk qp ly) (hp : p < 16) : lx p = nI (l p) ∧ ly p = nI (l p) ∧ l p ≤ 9 ∧ (¬ mr_lv st p → l p = 0) := by
  have a := hR.2.2.1 p hp
  rw [if_neg (by omega)] at a
  obtain ⟨b1, b2, b3, b4, b5, b6⟩ := mr_Rb hR
  have hI := hR.2.2.2.2.2.2.2.2
  exact ⟨a, hR.2.2.2.1 p hp, mr_l9 b5 hI hp, fun z => hI.2.2.2.1 p hp (by omega) z⟩
theorem i_vc_queueLength {k : Nat} {u : SX} {v : SY} (I : i_Rel k u v) (hk : k + 5 ≤ 2564) (v1 : Int32) : wpX_queueLength (fun r => wpY_queueLength (fun r' => r' = r ∧ i_Rel (k + 5) u v) v v1) u v1 := by
  obtain ⟨T, P, N, Q, al, l, dc, ic, tx, dx, st, S, O, ar, lx, h, mi, mk, mp, wl, rc, ty, dy, qi, qk, qp, ly, rfl, rfl, hR⟩ := I
  obtain ⟨b1, b2, b3, b4, b5, b6⟩ := mr_Rb hR
  have F := mr_fin (kk := k + 5) (dc := dc) (ic := ic) (wl := wl) (rc := rc) hR rfl rfl rfl rfl
  rcases mr_tk (T := P) v1 (by omega) with hy | ⟨p, hp, rfl⟩
  · exact xm_queueLength0 hy (ym_queueLength0 hy ⟨rfl, F⟩)
  · obtain ⟨e1, e2, e3, e4⟩ := mr_lxy hR (p := p) (by omega)
    exact xm_queueLength1 hp b3 (ym_queueLength1 hp b3 (fun z => by rw [e2, e4 z]; exact nI_0) ⟨e2.trans e1.symm, F⟩)
theorem i_vc_isArmed {k : Nat} {u : SX} {v : SY} (I : i_Rel k u v) (hk : k + 5 ≤ 2564) (v1 : Int32) : wpX_isArmed (fun r => wpY_isArmed (fun r' => r' = r ∧ i_Rel (k + 5) u v) v v1) u v1 := by
  obtain ⟨T, P, N, Q, al, l, dc, ic, tx, dx, st, S, O, ar, lx, h, mi, mk, mp, wl, rc, ty, dy, qi, qk, qp, ly, rfl, rfl, hR⟩ := I
  obtain ⟨b1, b2, b3, b4, b5, b6⟩ := mr_Rb hR
  have F := mr_fin (kk := k + 5) (dc := dc) (ic := ic) (wl := wl) (rc := rc) hR rfl rfl rfl rfl
  unfold wpX_isArmed
  rcases mr_tk (T := P) v1 (by omega) with hy | ⟨p, hp, rfl⟩
  · refine xm_port0 hy (br_t rfl ?_)
    unfold wpY_isArmed
    by_cases a1 : v1 < 0
    · exact br_t a1 ⟨rfl, F⟩
    · exact br_f a1 (br_f (Int32.not_lt.mpr (hy.resolve_left a1)) ⟨rfl, F⟩)
  · have c1 : (nI p).toNatClampNeg = p := nI_clamp (by omega)
    have v0 : vp_in (nI p) 16 := vp_in_nI (by omega) (by omega)
    refine xm_port1 hp b3 (br_f mr_10 ⟨v0, ?_⟩)
    have Y1 : ∀ post : Int32 → Prop, post (ar p) → (ar p = 0 ∨ ar p = 1) → wpY_isArmed post (nI T, nI P, nI N, nI Q, nI al, ic, rc 0, rc 1, rc 2, rc 3, ty, dy, st, S, O, ar, qi, qk, qp, ly, wl) (nI p) := by
      intro post hq ha
      unfold wpY_isArmed
      refine br_f (nI_pos (by omega)) (br_t (nI_lt hp (by omega)) ⟨v0, ?_⟩)
      rw [c1]
      refine ⟨?_, hq⟩
      rcases ha with ha | ha
      · rw [ha]; rfl
      · rw [ha]; rfl
    have ha := (hR.2.2.2.2.2.2.2.2.2.2.1 p (by omega)).2.2
    by_cases z : ar p = 0
    · exact br_t (by rw [c1]; exact z) (Y1 _ ⟨z, F⟩ ha)
    · exact br_f (by rw [c1]; exact z) (Y1 _ ⟨ha.resolve_left z, F⟩ ha)
