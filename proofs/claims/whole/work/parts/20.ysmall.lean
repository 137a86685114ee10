/-! the reference's small methods -/
theorem mr_yv {t n : Nat} (ht : t < 4) (hn : n < 9) : vp_in (nI t * 9 + nI n) 36 := by
  rw [mr_yc]
  exact vp_in_nI (by omega) (by omega)
theorem mr_ycl {t n : Nat} (ht : t < 4) (hn : n < 9) : (nI t * 9 + nI n).toNatClampNeg = t * 9 + n := by
  rw [mr_yc]
  exact nI_clamp (by omega)
section
variable {W W' : Nat → Prop} {e off T P N Q al p n t m x c D : Nat} {l : Nat → Nat} {dc ic r0 r1 r2 r3 : Int32} {tx dx st S O ar lx h mi mk mp wl rc ty dy qi qk qp ly : Nat → Int32} {v w i k z : Int32}
theorem ym_task1 {post : Int32 → Prop} (ht : t < T) (hT : T ≤ 4) (hp : post 1) : wpY_taskOk post (nI T, nI P, nI N, nI Q, nI al, ic, r0, r1, r2, r3, ty, dy, st, S, O, ar, qi, qk, qp, ly, wl) (nI t) := by
  have a1 : ¬ nI t < 0 := nI_pos (by omega)
  have a2 : ¬ nI T ≤ nI t := nI_ge ht (by omega)
  exact br_f a1 (br_f a2 hp)
theorem ym_task0 {post : Int32 → Prop} {y : Int32} (hy : y < 0 ∨ nI T ≤ y) (hp : post 0) : wpY_taskOk post (nI T, nI P, nI N, nI Q, nI al, ic, r0, r1, r2, r3, ty, dy, st, S, O, ar, qi, qk, qp, ly, wl) y := by
  by_cases a1 : y < 0
  · exact br_t a1 hp
  · exact br_f a1 (br_t (hy.resolve_left a1) hp)
theorem ym_name1 {post : Int32 → Prop} (hm : m < N) (hN : N ≤ 8) (hp : post 1) : wpY_nameOk post (nI T, nI P, nI N, nI Q, nI al, ic, r0, r1, r2, r3, ty, dy, st, S, O, ar, qi, qk, qp, ly, wl) (nI (m + 1)) := by
  have a1 : ¬ nI (m + 1) < 1 := nI_nlt (a := m + 1) (b := 1) (by omega) (by omega)
  have a2 : ¬ nI N < nI (m + 1) := nI_nlt (by omega) (by omega)
  exact br_f a1 (br_f a2 hp)
theorem ym_name0 {post : Int32 → Prop} {y : Int32} (hy : y < 1 ∨ nI N < y) (hp : post 0) : wpY_nameOk post (nI T, nI P, nI N, nI Q, nI al, ic, r0, r1, r2, r3, ty, dy, st, S, O, ar, qi, qk, qp, ly, wl) y := by
  by_cases a1 : y < 1
  · exact br_t a1 hp
  · exact br_f a1 (br_t (hy.resolve_left a1) hp)
theorem ym_live1 {post : Int32 → Prop} (h16 : p < P) (hP : P ≤ 16) (hl : mr_lv st p) (hp : post 1) : wpY_live post (nI T, nI P, nI N, nI Q, nI al, ic, r0, r1, r2, r3, ty, dy, st, S, O, ar, qi, qk, qp, ly, wl) (nI p) := by
  have v1 : vp_in (nI p) 16 := vp_in_nI (by omega) (by omega)
  have c1 : (nI p).toNatClampNeg = p := nI_clamp (by omega)
  have a1 : ¬ nI p < 0 := nI_pos (by omega)
  have a2 : ¬ nI P ≤ nI p := nI_ge h16 (by omega)
  refine br_f a1 (br_f a2 ?_)
  by_cases e1 : st p = 1
  · exact ⟨v1, br_t (by rw [c1]; exact e1) hp⟩
  · exact ⟨v1, br_f (by rw [c1]; exact e1) ⟨v1, br_t (by rw [c1]; exact hl.resolve_left e1) hp⟩⟩
theorem ym_live0 {post : Int32 → Prop} (h16 : p < 16) (hP : P ≤ 16) (hl : ¬ mr_lv st p) (hp : post 0) : wpY_live post (nI T, nI P, nI N, nI Q, nI al, ic, r0, r1, r2, r3, ty, dy, st, S, O, ar, qi, qk, qp, ly, wl) (nI p) := by
  have v1 : vp_in (nI p) 16 := vp_in_nI (by omega) (by omega)
  have c1 : (nI p).toNatClampNeg = p := nI_clamp (by omega)
  have a1 : ¬ nI p < 0 := nI_pos (by omega)
  refine br_f a1 ?_
  by_cases a2 : nI P ≤ nI p
  · exact br_t a2 hp
  · exact br_f a2 ⟨v1, br_f (by rw [c1]; exact fun a => hl (Or.inl a)) ⟨v1, br_f (by rw [c1]; exact fun a => hl (Or.inr a)) hp⟩⟩
theorem ym_liveN {post : Int32 → Prop} {y : Int32} (hy : y < 0 ∨ nI P ≤ y) (hp : post 0) : wpY_live post (nI T, nI P, nI N, nI Q, nI al, ic, r0, r1, r2, r3, ty, dy, st, S, O, ar, qi, qk, qp, ly, wl) y := by
  by_cases a1 : y < 0
  · exact br_t a1 hp
  · exact br_f a1 (br_t (hy.resolve_left a1) hp)
theorem ym_free {post : SY → Prop} (hc : c < 36) (hp : post (nI T, nI P, nI N, nI Q, nI al, ic, r0, r1, r2, r3, upd ty c 0, upd dy c (-1), st, S, O, ar, qi, qk, qp, ly, wl)) : wpY_free post (nI T, nI P, nI N, nI Q, nI al, ic, r0, r1, r2, r3, ty, dy, st, S, O, ar, qi, qk, qp, ly, wl) (nI c) := by
  have v1 : vp_in (nI c) 36 := vp_in_nI hc (by omega)
  have c1 : (nI c).toNatClampNeg = c := nI_clamp (by omega)
  refine ⟨v1, nm_r (e' := upd ty c 0) (by rw [c1]) ⟨v1, nm_r (e' := upd dy c (-1)) (by rw [c1]) hp⟩⟩
end
