/-! the component's searches -/
section
variable {W W' : Nat → Prop} {e off T P N Q al p n t m x c D : Nat} {l : Nat → Nat} {dc ic r0 r1 r2 r3 : Int32} {tx dx st S O ar lx h mi mk mp wl rc ty dy qi qk qp ly : Nat → Int32} {v w i k z : Int32}
theorem xm_lfL {post : Int32 → Prop} {r : Nat} (ht : t < 4) (hN : N ≤ 8) (hNN : mr_NN tx dx ty dy) (hr : mr_lst (fun n => ty (t * 9 + n) = 0) N r) (hp : post (nI r)) : ∀ d i, i + d = N → (∀ n, 1 ≤ n → n ≤ i → ¬ ty (t * 9 + n) = 0) → wX_leastFreeName_2 post (nI t) (nI T) (nI P) (nI N) (nI Q) dc (nI al) ic tx dx st S O ar lx h mi mk mp wl rc (d + 1) (nI (i + 1)) := by
  intro d
  induction d with
  | zero =>
    intro i hi hn
    have r0 : r = 0 := mr_lst0 hr (fun n a b => hn n a (by omega))
    rw [r0] at hp
    exact br_t (nI_lt (by omega) (by omega)) hp
  | succ d ih =>
    intro i hi hn
    have c1 : (nI (t * 8 + i)).toNatClampNeg = t * 8 + i := nI_clamp (by omega)
    have e1 := (hNN t i ht (by omega)).1
    refine br_f (nI_nlt (by omega) (by omega)) (xm_cell (nm_e ⟨vp_in_nI (by omega) (by omega), ?_⟩))
    by_cases z : ty (t * 9 + (i + 1)) = 0
    · rw [mr_lst1 hr (by omega) hn z] at hp
      exact br_t (by rw [c1, e1]; exact z) hp
    · exact br_f (by rw [c1, e1]; exact z) (nm_r (nI_1 (i + 1)) (ih (i + 1) (by omega) (mr_lst2 (pr := fun n => ty (t * 9 + n) = 0) hn z)))
theorem xm_lf {post : Int32 → Prop} {r : Nat} (ht : t < 4) (hN : N ≤ 8) (hNN : mr_NN tx dx ty dy) (hr : mr_lst (fun n => ty (t * 9 + n) = 0) N r) (hp : post (nI r)) : wpX_leastFreeName post (nI T, nI P, nI N, nI Q, dc, nI al, ic, tx, dx, st, S, O, ar, lx, h, mi, mk, mp, wl, rc) (nI t) :=
  ⟨N + 1, xm_lfL ht hN hNN hr hp N 0 (by omega) (fun n a b => absurd a (by omega))⟩
end
