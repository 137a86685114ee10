/-! append, on both sides -/
section
variable {W W' : Nat → Prop} {e off T P N Q al p n t m x c D : Nat} {l : Nat → Nat} {dc ic r0 r1 r2 r3 : Int32} {tx dx st S O ar lx h mi mk mp wl rc ty dy qi qk qp ly : Nat → Int32} {v w i k z : Int32}
theorem xm_append {post : SX → Prop} (hp : p < 16) (hn : n ≤ 8) (hl : lx p = nI n) (hq : post (nI T, nI P, nI N, nI Q, dc, nI al, ic + 1, tx, dx, st, S, O, ar, upd lx p (nI (n + 1)), h, upd mi (p * 9 + n) (ic + 1), upd mk (p * 9 + n) k, upd mp (p * 9 + n) z, wl, rc)) : wpX_append post (nI T, nI P, nI N, nI Q, dc, nI al, ic, tx, dx, st, S, O, ar, lx, h, mi, mk, mp, wl, rc) (nI p) k z := by
  have v1 : vp_in (nI p) 16 := vp_in_nI hp (by omega)
  have c1 : (nI p).toNatClampNeg = p := nI_clamp (by omega)
  have v2 : vp_in (nI (p * 9 + n)) 144 := vp_in_nI (by omega) (by omega)
  have c2 : (nI (p * 9 + n)).toNatClampNeg = p * 9 + n := nI_clamp (by omega)
  refine nm_e ⟨v1, nm_r (e' := nI (p * 9 + n)) (by rw [c1, hl]; exact mr_yc) ⟨v2, nm_r (e' := upd mi (p * 9 + n) (ic + 1)) (by rw [c2]) ⟨v2, nm_r (e' := upd mk (p * 9 + n) k) (by rw [c2]) ⟨v2, nm_r (e' := upd mp (p * 9 + n) z) (by rw [c2]) ⟨v1, ⟨v1, nm_r (e' := upd lx p (nI (n + 1))) (by rw [c1, hl, nI_1]) hq⟩⟩⟩⟩⟩⟩
theorem ym_append {post : Int32 → SY → Prop} (hp : p < P) (hP : P ≤ 16) (hn : n ≤ 8) (hl : ly p = nI n) (hq : post (ic + 1) (nI T, nI P, nI N, nI Q, nI al, ic + 1, r0, r1, r2, r3, ty, dy, st, S, O, ar, upd qi (p * 9 + n) (ic + 1), upd qk (p * 9 + n) k, upd qp (p * 9 + n) z, upd ly p (nI (n + 1)), wl)) : wpY_append post (nI T, nI P, nI N, nI Q, nI al, ic, r0, r1, r2, r3, ty, dy, st, S, O, ar, qi, qk, qp, ly, wl) (nI p) k z := by
  have v1 : vp_in (nI p) 16 := vp_in_nI (by omega) (by omega)
  have c1 : (nI p).toNatClampNeg = p := nI_clamp (by omega)
  have v2 : vp_in (nI (p * 9 + n)) 144 := vp_in_nI (by omega) (by omega)
  have c2 : (nI (p * 9 + n)).toNatClampNeg = p * 9 + n := nI_clamp (by omega)
  have a1 : ¬ nI p < 0 := nI_pos (by omega)
  have a2 : ¬ nI P ≤ nI p := nI_ge hp (by omega)
  have a3 : ly (nI p).toNatClampNeg < 9 := by rw [c1, hl]; exact nI_lt (b := 9) (by omega) (by omega)
  refine br_f a1 (br_f a2 ⟨v1, br_t a3 (nm_e ⟨v1, nm_r (e' := nI (p * 9 + n)) (by rw [c1, hl]; exact mr_yc) ⟨v2, nm_r (e' := upd qi (p * 9 + n) (ic + 1)) (by rw [c2]) ⟨v2, nm_r (e' := upd qk (p * 9 + n) k) (by rw [c2]) ⟨v2, nm_r (e' := upd qp (p * 9 + n) z) (by rw [c2]) ⟨v1, ⟨v1, nm_r (e' := upd ly p (nI (n + 1))) (by rw [c1, hl, nI_1]) hq⟩⟩⟩⟩⟩⟩)⟩)
end
