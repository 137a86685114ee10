/-! the component's small methods -/
theorem mr_xc {t m : Nat} : nI t * 8 + nI (m + 1) - 1 = nI (t * 8 + m) := by
  rw [show (8 : Int32) = nI 8 from rfl, pk_mul, nI_add, show t * 8 + (m + 1) = (t * 8 + m) + 1 from rfl, nI_pred]
theorem mr_yc {t n : Nat} : nI t * 9 + nI n = nI (t * 9 + n) := by
  rw [show (9 : Int32) = nI 9 from rfl, pk_mul, nI_add]
theorem mr_10 : ¬ (1 : Int32) = 0 := by decide
section
variable {W W' : Nat → Prop} {e off T P N Q al p n t m x c D : Nat} {l : Nat → Nat} {dc ic r0 r1 r2 r3 : Int32} {tx dx st S O ar lx h mi mk mp wl rc ty dy qi qk qp ly : Nat → Int32} {v w i k z : Int32}
theorem xm_cell {post : Int32 → Prop} (hp : post (nI (t * 8 + m))) : wpX_cellOf post (nI t) (nI (m + 1)) := by
  unfold wpX_cellOf
  rw [mr_xc]
  exact hp
theorem xm_task1 {post : Int32 → Prop} (ht : t < T) (hT : T ≤ 4) (hp : post 1) : wpX_isTask post (nI T, nI P, nI N, nI Q, dc, nI al, ic, tx, dx, st, S, O, ar, lx, h, mi, mk, mp, wl, rc) (nI t) := by
  have a1 : ¬ nI t < 0 := nI_pos (by omega)
  have a2 : ¬ nI T ≤ nI t := nI_ge ht (by omega)
  exact br_f a1 (br_f a2 hp)
theorem xm_task0 {post : Int32 → Prop} {y : Int32} (hy : y < 0 ∨ nI T ≤ y) (hp : post 0) : wpX_isTask post (nI T, nI P, nI N, nI Q, dc, nI al, ic, tx, dx, st, S, O, ar, lx, h, mi, mk, mp, wl, rc) y := by
  by_cases a1 : y < 0
  · exact br_t a1 hp
  · exact br_f a1 (br_t (hy.resolve_left a1) hp)
theorem xm_port1 {post : Int32 → Prop} (ht : p < P) (hT : P ≤ 16) (hp : post 1) : wpX_isPort post (nI T, nI P, nI N, nI Q, dc, nI al, ic, tx, dx, st, S, O, ar, lx, h, mi, mk, mp, wl, rc) (nI p) := by
  have a1 : ¬ nI p < 0 := nI_pos (by omega)
  have a2 : ¬ nI P ≤ nI p := nI_ge ht (by omega)
  exact br_f a1 (br_f a2 hp)
theorem xm_port0 {post : Int32 → Prop} {y : Int32} (hy : y < 0 ∨ nI P ≤ y) (hp : post 0) : wpX_isPort post (nI T, nI P, nI N, nI Q, dc, nI al, ic, tx, dx, st, S, O, ar, lx, h, mi, mk, mp, wl, rc) y := by
  by_cases a1 : y < 0
  · exact br_t a1 hp
  · exact br_f a1 (br_t (hy.resolve_left a1) hp)
theorem xm_name1 {post : Int32 → Prop} (hm : m < N) (hN : N ≤ 8) (hp : post 1) : wpX_isName post (nI T, nI P, nI N, nI Q, dc, nI al, ic, tx, dx, st, S, O, ar, lx, h, mi, mk, mp, wl, rc) (nI (m + 1)) := by
  have a1 : ¬ nI (m + 1) < 1 := nI_nlt (a := m + 1) (b := 1) (by omega) (by omega)
  have a2 : ¬ nI N < nI (m + 1) := nI_nlt (by omega) (by omega)
  exact br_f a1 (br_f a2 hp)
theorem xm_name0 {post : Int32 → Prop} {y : Int32} (hy : y < 1 ∨ nI N < y) (hp : post 0) : wpX_isName post (nI T, nI P, nI N, nI Q, dc, nI al, ic, tx, dx, st, S, O, ar, lx, h, mi, mk, mp, wl, rc) y := by
  by_cases a1 : y < 1
  · exact br_t a1 hp
  · exact br_f a1 (br_t (hy.resolve_left a1) hp)
theorem mr_tk (y : Int32) (hT : T ≤ 16) : (y < 0 ∨ nI T ≤ y) ∨ ∃ t, t < T ∧ y = nI t := by
  rcases pk_ix y (n := T) (by omega) with a | a | a
  · exact Or.inl (Or.inl a)
  · exact Or.inl (Or.inr a)
  · exact Or.inr a
theorem mr_nk (y : Int32) (hN : N ≤ 8) : (y < 1 ∨ nI N < y) ∨ ∃ m, m < N ∧ y = nI (m + 1) := by
  rcases pk_ix y (n := N + 1) (by omega) with a | a | ⟨j, hj, rfl⟩
  · refine Or.inl (Or.inl ?_)
    exact Int32.lt_trans a (by decide)
  · refine Or.inl (Or.inr ?_)
    exact Int32.lt_of_lt_of_le (nI_lt (Nat.lt_succ_self N) (by omega)) a
  · cases j with
    | zero => exact Or.inl (Or.inl (by decide))
    | succ j => exact Or.inr ⟨j, by omega, rfl⟩
/-- live: 1 where it is held or in transit -/
theorem xm_live1 {post : Int32 → Prop} (h16 : p < 16) (hl : mr_lv st p) (hp : post 1) : wpX_isLive post (nI T, nI P, nI N, nI Q, dc, nI al, ic, tx, dx, st, S, O, ar, lx, h, mi, mk, mp, wl, rc) (nI p) := by
  have v1 : vp_in (nI p) 16 := vp_in_nI h16 (by omega)
  have c1 : (nI p).toNatClampNeg = p := nI_clamp (by omega)
  by_cases e1 : st p = 1
  · exact ⟨v1, br_t (by rw [c1]; exact e1) hp⟩
  · exact ⟨v1, br_f (by rw [c1]; exact e1) ⟨v1, br_t (by rw [c1]; exact hl.resolve_left e1) hp⟩⟩
theorem xm_live0 {post : Int32 → Prop} (h16 : p < 16) (hl : ¬ mr_lv st p) (hp : post 0) : wpX_isLive post (nI T, nI P, nI N, nI Q, dc, nI al, ic, tx, dx, st, S, O, ar, lx, h, mi, mk, mp, wl, rc) (nI p) := by
  have v1 : vp_in (nI p) 16 := vp_in_nI h16 (by omega)
  have c1 : (nI p).toNatClampNeg = p := nI_clamp (by omega)
  exact ⟨v1, br_f (by rw [c1]; exact fun a => hl (Or.inl a)) ⟨v1, br_f (by rw [c1]; exact fun a => hl (Or.inr a)) hp⟩⟩
theorem xm_nt1 {post : Int32 → Prop} (ht : t < T) (hT : T ≤ 4) (hm : m < N) (hN : N ≤ 8) (hp : post (tx (t * 8 + m))) : wpX_nameType post (nI T, nI P, nI N, nI Q, dc, nI al, ic, tx, dx, st, S, O, ar, lx, h, mi, mk, mp, wl, rc) (nI t) (nI (m + 1)) := by
  unfold wpX_nameType
  refine xm_task1 ht hT (br_f mr_10 ?_)
  refine xm_name1 hm hN (br_f mr_10 ?_)
  refine xm_cell ⟨vp_in_nI (by omega) (by omega), ?_⟩
  rw [nI_clamp (by omega)]
  exact hp
theorem xm_nt0 {post : Int32 → Prop} {y : Int32} (ht : t < T) (hT : T ≤ 4) (hy : y < 1 ∨ nI N < y) (hp : post 0) : wpX_nameType post (nI T, nI P, nI N, nI Q, dc, nI al, ic, tx, dx, st, S, O, ar, lx, h, mi, mk, mp, wl, rc) (nI t) y := by
  unfold wpX_nameType
  refine xm_task1 ht hT (br_f mr_10 ?_)
  exact xm_name0 hy (br_t rfl hp)
theorem xm_ntT {post : Int32 → Prop} {y y2 : Int32} (hy : y < 0 ∨ nI T ≤ y) (hp : post 0) : wpX_nameType post (nI T, nI P, nI N, nI Q, dc, nI al, ic, tx, dx, st, S, O, ar, lx, h, mi, mk, mp, wl, rc) y y2 := by
  unfold wpX_nameType
  exact xm_task0 hy (br_t rfl hp)
theorem xm_np1 {post : Int32 → Prop} (ht : t < T) (hT : T ≤ 4) (hm : m < N) (hN : N ≤ 8) (hp : post (dx (t * 8 + m))) : wpX_namePort post (nI T, nI P, nI N, nI Q, dc, nI al, ic, tx, dx, st, S, O, ar, lx, h, mi, mk, mp, wl, rc) (nI t) (nI (m + 1)) := by
  unfold wpX_namePort
  refine xm_task1 ht hT (br_f mr_10 ?_)
  refine xm_name1 hm hN (br_f mr_10 ?_)
  refine xm_cell ⟨vp_in_nI (by omega) (by omega), ?_⟩
  rw [nI_clamp (by omega)]
  exact hp
theorem xm_np0 {post : Int32 → Prop} {y : Int32} (ht : t < T) (hT : T ≤ 4) (hy : y < 1 ∨ nI N < y) (hp : post (-1)) : wpX_namePort post (nI T, nI P, nI N, nI Q, dc, nI al, ic, tx, dx, st, S, O, ar, lx, h, mi, mk, mp, wl, rc) (nI t) y := by
  unfold wpX_namePort
  refine xm_task1 ht hT (br_f mr_10 ?_)
  exact xm_name0 hy (br_t rfl hp)
theorem xm_npT {post : Int32 → Prop} {y y2 : Int32} (hy : y < 0 ∨ nI T ≤ y) (hp : post (-1)) : wpX_namePort post (nI T, nI P, nI N, nI Q, dc, nI al, ic, tx, dx, st, S, O, ar, lx, h, mi, mk, mp, wl, rc) y y2 := by
  unfold wpX_namePort
  exact xm_task0 hy (br_t rfl hp)
theorem xm_rrT {post : Int32 → Prop} {y y2 : Int32} (hy : y < 0 ∨ nI T ≤ y) (hp : post (-1)) : wpX_receiveRightRefusal post (nI T, nI P, nI N, nI Q, dc, nI al, ic, tx, dx, st, S, O, ar, lx, h, mi, mk, mp, wl, rc) y y2 := by
  unfold wpX_receiveRightRefusal
  exact xm_task0 hy (br_t rfl hp)
theorem xm_rrN {post : Int32 → Prop} {y : Int32} (ht : t < T) (hT : T ≤ 4) (hy : y < 1 ∨ nI N < y) (hp : post (-2)) : wpX_receiveRightRefusal post (nI T, nI P, nI N, nI Q, dc, nI al, ic, tx, dx, st, S, O, ar, lx, h, mi, mk, mp, wl, rc) (nI t) y := by
  unfold wpX_receiveRightRefusal
  refine xm_task1 ht hT (br_f mr_10 ?_)
  exact xm_nt0 ht hT hy (br_t (by decide) hp)
theorem xm_rrF {post : Int32 → Prop} (ht : t < T) (hT : T ≤ 4) (hm : m < N) (hN : N ≤ 8) (h0 : tx (t * 8 + m) &&& 1 = 0) (hp : post (-2)) : wpX_receiveRightRefusal post (nI T, nI P, nI N, nI Q, dc, nI al, ic, tx, dx, st, S, O, ar, lx, h, mi, mk, mp, wl, rc) (nI t) (nI (m + 1)) := by
  unfold wpX_receiveRightRefusal
  refine xm_task1 ht hT (br_f mr_10 ?_)
  exact xm_nt1 ht hT hm hN (br_t h0 hp)
theorem xm_rr0 {post : Int32 → Prop} (ht : t < T) (hT : T ≤ 4) (hm : m < N) (hN : N ≤ 8) (h0 : ¬ tx (t * 8 + m) &&& 1 = 0) (hp : post 0) : wpX_receiveRightRefusal post (nI T, nI P, nI N, nI Q, dc, nI al, ic, tx, dx, st, S, O, ar, lx, h, mi, mk, mp, wl, rc) (nI t) (nI (m + 1)) := by
  unfold wpX_receiveRightRefusal
  refine xm_task1 ht hT (br_f mr_10 ?_)
  exact xm_nt1 ht hT hm hN (br_f h0 hp)
end
