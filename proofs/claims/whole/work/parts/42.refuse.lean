/-! refusals for want of a task, a name, a receive right -/
section
variable {W W' : Nat → Prop} {e off T P N Q al p n t m x c D : Nat} {l : Nat → Nat} {dc ic r0 r1 r2 r3 : Int32} {tx dx st S O ar lx h mi mk mp wl rc ty dy qi qk qp ly : Nat → Int32} {v w i k z : Int32}
theorem xm_giveSendT {post : Int32 → SX → Prop} {y y2 : Int32} {y3 : Int32} (hy : y < 0 ∨ nI T ≤ y) (hp : post (-1) (nI T, nI P, nI N, nI Q, dc, nI al, ic, tx, dx, st, S, O, ar, lx, h, mi, mk, mp, wl, rc)) : wpX_giveSend post (nI T, nI P, nI N, nI Q, dc, nI al, ic, tx, dx, st, S, O, ar, lx, h, mi, mk, mp, wl, rc) y y2 y3 := by
  unfold wpX_giveSend
  exact xm_rrT hy (br_f (by decide) hp)
theorem xm_giveSendN {post : Int32 → SX → Prop} {y2 : Int32} {y3 : Int32} (ht : t < T) (hT : T ≤ 4) (hy : y2 < 1 ∨ nI N < y2) (hp : post (-2) (nI T, nI P, nI N, nI Q, dc, nI al, ic, tx, dx, st, S, O, ar, lx, h, mi, mk, mp, wl, rc)) : wpX_giveSend post (nI T, nI P, nI N, nI Q, dc, nI al, ic, tx, dx, st, S, O, ar, lx, h, mi, mk, mp, wl, rc) (nI t) y2 y3 := by
  unfold wpX_giveSend
  exact xm_rrN ht hT hy (br_f (by decide) hp)
theorem xm_giveSendF {post : Int32 → SX → Prop} {y3 : Int32} (ht : t < T) (hT : T ≤ 4) (hm : m < N) (hN : N ≤ 8) (h0 : tx (t * 8 + m) &&& 1 = 0) (hp : post (-2) (nI T, nI P, nI N, nI Q, dc, nI al, ic, tx, dx, st, S, O, ar, lx, h, mi, mk, mp, wl, rc)) : wpX_giveSend post (nI T, nI P, nI N, nI Q, dc, nI al, ic, tx, dx, st, S, O, ar, lx, h, mi, mk, mp, wl, rc) (nI t) (nI (m + 1)) y3 := by
  unfold wpX_giveSend
  exact xm_rrF ht hT hm hN h0 (br_f (by decide) hp)
theorem ym_giveSendT {post : Int32 → SY → Prop} {y y2 : Int32} {y3 : Int32} (hy : y < 0 ∨ nI T ≤ y) (hp : post (-1) (nI T, nI P, nI N, nI Q, nI al, ic, r0, r1, r2, r3, ty, dy, st, S, O, ar, qi, qk, qp, ly, wl)) : wpY_giveSend post (nI T, nI P, nI N, nI Q, nI al, ic, r0, r1, r2, r3, ty, dy, st, S, O, ar, qi, qk, qp, ly, wl) y y2 y3 := by
  unfold wpY_giveSend
  exact ym_task0 hy (br_t rfl hp)
theorem ym_giveSendN {post : Int32 → SY → Prop} {y2 : Int32} {y3 : Int32} (ht : t < T) (hT : T ≤ 4) (hy : y2 < 1 ∨ nI N < y2) (hp : post (-2) (nI T, nI P, nI N, nI Q, nI al, ic, r0, r1, r2, r3, ty, dy, st, S, O, ar, qi, qk, qp, ly, wl)) : wpY_giveSend post (nI T, nI P, nI N, nI Q, nI al, ic, r0, r1, r2, r3, ty, dy, st, S, O, ar, qi, qk, qp, ly, wl) (nI t) y2 y3 := by
  unfold wpY_giveSend
  refine ym_task1 ht hT (br_f mr_10 ?_)
  exact ym_name0 hy (br_t rfl hp)
theorem ym_giveSendF {post : Int32 → SY → Prop} {y3 : Int32} (ht : t < T) (hT : T ≤ 4) (hm : m < N) (hN : N ≤ 8) (h0 : ty (t * 9 + (m + 1)) &&& 1 = 0) (hp : post (-2) (nI T, nI P, nI N, nI Q, nI al, ic, r0, r1, r2, r3, ty, dy, st, S, O, ar, qi, qk, qp, ly, wl)) : wpY_giveSend post (nI T, nI P, nI N, nI Q, nI al, ic, r0, r1, r2, r3, ty, dy, st, S, O, ar, qi, qk, qp, ly, wl) (nI t) (nI (m + 1)) y3 := by
  unfold wpY_giveSend
  refine ym_task1 ht hT (br_f mr_10 ?_)
  refine ym_name1 hm hN (br_f mr_10 ⟨mr_yv (by omega) (by omega), br_t ?_ hp⟩)
  rw [mr_ycl (by omega) (by omega)]
  exact h0
theorem xm_receiveT {post : Int32 → SX → Prop} {y y2 : Int32} (hy : y < 0 ∨ nI T ≤ y) (hp : post (-1) (nI T, nI P, nI N, nI Q, dc, nI al, ic, tx, dx, st, S, O, ar, lx, h, mi, mk, mp, wl, rc)) : wpX_receive post (nI T, nI P, nI N, nI Q, dc, nI al, ic, tx, dx, st, S, O, ar, lx, h, mi, mk, mp, wl, rc) y y2 := by
  unfold wpX_receive
  exact xm_rrT hy (br_f (by decide) hp)
theorem xm_receiveN {post : Int32 → SX → Prop} {y2 : Int32} (ht : t < T) (hT : T ≤ 4) (hy : y2 < 1 ∨ nI N < y2) (hp : post (-2) (nI T, nI P, nI N, nI Q, dc, nI al, ic, tx, dx, st, S, O, ar, lx, h, mi, mk, mp, wl, rc)) : wpX_receive post (nI T, nI P, nI N, nI Q, dc, nI al, ic, tx, dx, st, S, O, ar, lx, h, mi, mk, mp, wl, rc) (nI t) y2 := by
  unfold wpX_receive
  exact xm_rrN ht hT hy (br_f (by decide) hp)
theorem xm_receiveF {post : Int32 → SX → Prop} (ht : t < T) (hT : T ≤ 4) (hm : m < N) (hN : N ≤ 8) (h0 : tx (t * 8 + m) &&& 1 = 0) (hp : post (-2) (nI T, nI P, nI N, nI Q, dc, nI al, ic, tx, dx, st, S, O, ar, lx, h, mi, mk, mp, wl, rc)) : wpX_receive post (nI T, nI P, nI N, nI Q, dc, nI al, ic, tx, dx, st, S, O, ar, lx, h, mi, mk, mp, wl, rc) (nI t) (nI (m + 1)) := by
  unfold wpX_receive
  exact xm_rrF ht hT hm hN h0 (br_f (by decide) hp)
theorem ym_receiveT {post : Int32 → SY → Prop} {y y2 : Int32} (hy : y < 0 ∨ nI T ≤ y) (hp : post (-1) (nI T, nI P, nI N, nI Q, nI al, ic, r0, r1, r2, r3, ty, dy, st, S, O, ar, qi, qk, qp, ly, wl)) : wpY_receive post (nI T, nI P, nI N, nI Q, nI al, ic, r0, r1, r2, r3, ty, dy, st, S, O, ar, qi, qk, qp, ly, wl) y y2 := by
  unfold wpY_receive
  exact ym_task0 hy (br_t rfl hp)
theorem ym_receiveN {post : Int32 → SY → Prop} {y2 : Int32} (ht : t < T) (hT : T ≤ 4) (hy : y2 < 1 ∨ nI N < y2) (hp : post (-2) (nI T, nI P, nI N, nI Q, nI al, ic, r0, r1, r2, r3, ty, dy, st, S, O, ar, qi, qk, qp, ly, wl)) : wpY_receive post (nI T, nI P, nI N, nI Q, nI al, ic, r0, r1, r2, r3, ty, dy, st, S, O, ar, qi, qk, qp, ly, wl) (nI t) y2 := by
  unfold wpY_receive
  refine ym_task1 ht hT (br_f mr_10 ?_)
  exact ym_name0 hy (br_t rfl hp)
theorem ym_receiveF {post : Int32 → SY → Prop} (ht : t < T) (hT : T ≤ 4) (hm : m < N) (hN : N ≤ 8) (h0 : ty (t * 9 + (m + 1)) &&& 1 = 0) (hp : post (-2) (nI T, nI P, nI N, nI Q, nI al, ic, r0, r1, r2, r3, ty, dy, st, S, O, ar, qi, qk, qp, ly, wl)) : wpY_receive post (nI T, nI P, nI N, nI Q, nI al, ic, r0, r1, r2, r3, ty, dy, st, S, O, ar, qi, qk, qp, ly, wl) (nI t) (nI (m + 1)) := by
  unfold wpY_receive
  refine ym_task1 ht hT (br_f mr_10 ?_)
  refine ym_name1 hm hN (br_f mr_10 ⟨mr_yv (by omega) (by omega), br_t ?_ hp⟩)
  rw [mr_ycl (by omega) (by omega)]
  exact h0
theorem xm_destroyReceiveT {post : Int32 → SX → Prop} {y y2 : Int32} (hy : y < 0 ∨ nI T ≤ y) (hp : post (-1) (nI T, nI P, nI N, nI Q, dc, nI al, ic, tx, dx, st, S, O, ar, lx, h, mi, mk, mp, wl, rc)) : wpX_destroyReceive post (nI T, nI P, nI N, nI Q, dc, nI al, ic, tx, dx, st, S, O, ar, lx, h, mi, mk, mp, wl, rc) y y2 := by
  unfold wpX_destroyReceive
  exact xm_rrT hy (br_f (by decide) hp)
theorem xm_destroyReceiveN {post : Int32 → SX → Prop} {y2 : Int32} (ht : t < T) (hT : T ≤ 4) (hy : y2 < 1 ∨ nI N < y2) (hp : post (-2) (nI T, nI P, nI N, nI Q, dc, nI al, ic, tx, dx, st, S, O, ar, lx, h, mi, mk, mp, wl, rc)) : wpX_destroyReceive post (nI T, nI P, nI N, nI Q, dc, nI al, ic, tx, dx, st, S, O, ar, lx, h, mi, mk, mp, wl, rc) (nI t) y2 := by
  unfold wpX_destroyReceive
  exact xm_rrN ht hT hy (br_f (by decide) hp)
theorem xm_destroyReceiveF {post : Int32 → SX → Prop} (ht : t < T) (hT : T ≤ 4) (hm : m < N) (hN : N ≤ 8) (h0 : tx (t * 8 + m) &&& 1 = 0) (hp : post (-2) (nI T, nI P, nI N, nI Q, dc, nI al, ic, tx, dx, st, S, O, ar, lx, h, mi, mk, mp, wl, rc)) : wpX_destroyReceive post (nI T, nI P, nI N, nI Q, dc, nI al, ic, tx, dx, st, S, O, ar, lx, h, mi, mk, mp, wl, rc) (nI t) (nI (m + 1)) := by
  unfold wpX_destroyReceive
  exact xm_rrF ht hT hm hN h0 (br_f (by decide) hp)
theorem ym_destroyReceiveT {post : Int32 → SY → Prop} {y y2 : Int32} (hy : y < 0 ∨ nI T ≤ y) (hp : post (-1) (nI T, nI P, nI N, nI Q, nI al, ic, r0, r1, r2, r3, ty, dy, st, S, O, ar, qi, qk, qp, ly, wl)) : wpY_destroyReceive post (nI T, nI P, nI N, nI Q, nI al, ic, r0, r1, r2, r3, ty, dy, st, S, O, ar, qi, qk, qp, ly, wl) y y2 := by
  unfold wpY_destroyReceive
  exact ym_task0 hy (br_t rfl hp)
theorem ym_destroyReceiveN {post : Int32 → SY → Prop} {y2 : Int32} (ht : t < T) (hT : T ≤ 4) (hy : y2 < 1 ∨ nI N < y2) (hp : post (-2) (nI T, nI P, nI N, nI Q, nI al, ic, r0, r1, r2, r3, ty, dy, st, S, O, ar, qi, qk, qp, ly, wl)) : wpY_destroyReceive post (nI T, nI P, nI N, nI Q, nI al, ic, r0, r1, r2, r3, ty, dy, st, S, O, ar, qi, qk, qp, ly, wl) (nI t) y2 := by
  unfold wpY_destroyReceive
  refine ym_task1 ht hT (br_f mr_10 ?_)
  exact ym_name0 hy (br_t rfl hp)
theorem ym_destroyReceiveF {post : Int32 → SY → Prop} (ht : t < T) (hT : T ≤ 4) (hm : m < N) (hN : N ≤ 8) (h0 : ty (t * 9 + (m + 1)) &&& 1 = 0) (hp : post (-2) (nI T, nI P, nI N, nI Q, nI al, ic, r0, r1, r2, r3, ty, dy, st, S, O, ar, qi, qk, qp, ly, wl)) : wpY_destroyReceive post (nI T, nI P, nI N, nI Q, nI al, ic, r0, r1, r2, r3, ty, dy, st, S, O, ar, qi, qk, qp, ly, wl) (nI t) (nI (m + 1)) := by
  unfold wpY_destroyReceive
  refine ym_task1 ht hT (br_f mr_10 ?_)
  refine ym_name1 hm hN (br_f mr_10 ⟨mr_yv (by omega) (by omega), br_t ?_ hp⟩)
  rw [mr_ycl (by omega) (by omega)]
  exact h0
theorem xm_requestNoSendersT {post : Int32 → SX → Prop} {y y2 : Int32} (hy : y < 0 ∨ nI T ≤ y) (hp : post (-1) (nI T, nI P, nI N, nI Q, dc, nI al, ic, tx, dx, st, S, O, ar, lx, h, mi, mk, mp, wl, rc)) : wpX_requestNoSenders post (nI T, nI P, nI N, nI Q, dc, nI al, ic, tx, dx, st, S, O, ar, lx, h, mi, mk, mp, wl, rc) y y2 := by
  unfold wpX_requestNoSenders
  exact xm_rrT hy (br_f (by decide) hp)
theorem xm_requestNoSendersN {post : Int32 → SX → Prop} {y2 : Int32} (ht : t < T) (hT : T ≤ 4) (hy : y2 < 1 ∨ nI N < y2) (hp : post (-2) (nI T, nI P, nI N, nI Q, dc, nI al, ic, tx, dx, st, S, O, ar, lx, h, mi, mk, mp, wl, rc)) : wpX_requestNoSenders post (nI T, nI P, nI N, nI Q, dc, nI al, ic, tx, dx, st, S, O, ar, lx, h, mi, mk, mp, wl, rc) (nI t) y2 := by
  unfold wpX_requestNoSenders
  exact xm_rrN ht hT hy (br_f (by decide) hp)
theorem xm_requestNoSendersF {post : Int32 → SX → Prop} (ht : t < T) (hT : T ≤ 4) (hm : m < N) (hN : N ≤ 8) (h0 : tx (t * 8 + m) &&& 1 = 0) (hp : post (-2) (nI T, nI P, nI N, nI Q, dc, nI al, ic, tx, dx, st, S, O, ar, lx, h, mi, mk, mp, wl, rc)) : wpX_requestNoSenders post (nI T, nI P, nI N, nI Q, dc, nI al, ic, tx, dx, st, S, O, ar, lx, h, mi, mk, mp, wl, rc) (nI t) (nI (m + 1)) := by
  unfold wpX_requestNoSenders
  exact xm_rrF ht hT hm hN h0 (br_f (by decide) hp)
theorem ym_requestNoSendersT {post : Int32 → SY → Prop} {y y2 : Int32} (hy : y < 0 ∨ nI T ≤ y) (hp : post (-1) (nI T, nI P, nI N, nI Q, nI al, ic, r0, r1, r2, r3, ty, dy, st, S, O, ar, qi, qk, qp, ly, wl)) : wpY_requestNoSenders post (nI T, nI P, nI N, nI Q, nI al, ic, r0, r1, r2, r3, ty, dy, st, S, O, ar, qi, qk, qp, ly, wl) y y2 := by
  unfold wpY_requestNoSenders
  exact ym_task0 hy (br_t rfl hp)
theorem ym_requestNoSendersN {post : Int32 → SY → Prop} {y2 : Int32} (ht : t < T) (hT : T ≤ 4) (hy : y2 < 1 ∨ nI N < y2) (hp : post (-2) (nI T, nI P, nI N, nI Q, nI al, ic, r0, r1, r2, r3, ty, dy, st, S, O, ar, qi, qk, qp, ly, wl)) : wpY_requestNoSenders post (nI T, nI P, nI N, nI Q, nI al, ic, r0, r1, r2, r3, ty, dy, st, S, O, ar, qi, qk, qp, ly, wl) (nI t) y2 := by
  unfold wpY_requestNoSenders
  refine ym_task1 ht hT (br_f mr_10 ?_)
  exact ym_name0 hy (br_t rfl hp)
theorem ym_requestNoSendersF {post : Int32 → SY → Prop} (ht : t < T) (hT : T ≤ 4) (hm : m < N) (hN : N ≤ 8) (h0 : ty (t * 9 + (m + 1)) &&& 1 = 0) (hp : post (-2) (nI T, nI P, nI N, nI Q, nI al, ic, r0, r1, r2, r3, ty, dy, st, S, O, ar, qi, qk, qp, ly, wl)) : wpY_requestNoSenders post (nI T, nI P, nI N, nI Q, nI al, ic, r0, r1, r2, r3, ty, dy, st, S, O, ar, qi, qk, qp, ly, wl) (nI t) (nI (m + 1)) := by
  unfold wpY_requestNoSenders
  refine ym_task1 ht hT (br_f mr_10 ?_)
  refine ym_name1 hm hN (br_f mr_10 ⟨mr_yv (by omega) (by omega), br_t ?_ hp⟩)
  rw [mr_ycl (by omega) (by omega)]
  exact h0
end
