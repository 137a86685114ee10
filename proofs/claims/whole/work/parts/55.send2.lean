/-! send: the reference's walks -/
section
variable {W W' : Nat → Prop} {e off T P N Q al p n t m x c D : Nat} {l : Nat → Nat} {dc ic r0 r1 r2 r3 : Int32} {tx dx st S O ar lx h mi mk mp wl rc ty dy qi qk qp ly : Nat → Int32} {v w i k z : Int32}
variable {md mc : Nat} {d y2 y3 y5 y6 y7 y8 : Int32}
theorem ym_sdT {post : Int32 → SY → Prop} {y y4 : Int32} (hy : y < 0 ∨ nI T ≤ y) (hp : post (-1) (nI T, nI P, nI N, nI Q, nI al, ic, r0, r1, r2, r3, ty, dy, st, S, O, ar, qi, qk, qp, ly, wl)) : wpY_send post (nI T, nI P, nI N, nI Q, nI al, ic, r0, r1, r2, r3, ty, dy, st, S, O, ar, qi, qk, qp, ly, wl) y y2 y3 y4 := by
  unfold wpY_send
  exact ym_task0 hy (br_t rfl hp)
theorem ym_sdN {post : Int32 → SY → Prop} {y4 : Int32} (ht : t < T) (hT : T ≤ 4) (hy : y2 < 1 ∨ nI N < y2) (hp : post (-2) (nI T, nI P, nI N, nI Q, nI al, ic, r0, r1, r2, r3, ty, dy, st, S, O, ar, qi, qk, qp, ly, wl)) : wpY_send post (nI T, nI P, nI N, nI Q, nI al, ic, r0, r1, r2, r3, ty, dy, st, S, O, ar, qi, qk, qp, ly, wl) (nI t) y2 y3 y4 := by
  unfold wpY_send
  refine ym_task1 ht hT (br_f mr_10 ?_)
  exact ym_name0 hy (br_t rfl hp)
theorem ym_sdF {post : Int32 → SY → Prop} {y4 : Int32} (ht : t < T) (hT : T ≤ 4) (hm : md < N) (hN : N ≤ 8) (h0 : ¬ (ty (t * 9 + (md + 1)) = 2 ∨ ty (t * 9 + (md + 1)) = 3 ∨ ty (t * 9 + (md + 1)) = 4)) (hp : post (-2) (nI T, nI P, nI N, nI Q, nI al, ic, r0, r1, r2, r3, ty, dy, st, S, O, ar, qi, qk, qp, ly, wl)) : wpY_send post (nI T, nI P, nI N, nI Q, nI al, ic, r0, r1, r2, r3, ty, dy, st, S, O, ar, qi, qk, qp, ly, wl) (nI t) (nI (md + 1)) y3 y4 := by
  unfold wpY_send
  refine ym_task1 ht hT (br_f mr_10 ?_)
  refine ym_name1 hm hN (br_f mr_10 (nm_r mr_yc ⟨vp_in_nI (by omega) (by omega), nm_r (e' := ty (t * 9 + (md + 1))) (by rw [nI_clamp (by omega)]) ?_⟩))
  exact br_f (fun a => h0 (Or.inl a)) (br_f (fun a => h0 (Or.inr (Or.inl a))) (br_f (fun a => h0 (Or.inr (Or.inr a))) hp))
theorem ym_sd0 {post : Int32 → SY → Prop} {y4 : Int32} (ht : t < T) (hT : T ≤ 4) (hm : md < N) (hN : N ≤ 8) (h0 : ty (t * 9 + (md + 1)) = 2 ∨ ty (t * 9 + (md + 1)) = 3 ∨ ty (t * 9 + (md + 1)) = 4) (hp : wY_send_59 post (nI t) (nI (md + 1)) y3 y4 (nI (t * 9 + (md + 1))) (ty (t * 9 + (md + 1))) (nI T) (nI P) (nI N) (nI Q) (nI al) ic r0 r1 r2 r3 ty dy st S O ar qi qk qp ly wl) : wpY_send post (nI T, nI P, nI N, nI Q, nI al, ic, r0, r1, r2, r3, ty, dy, st, S, O, ar, qi, qk, qp, ly, wl) (nI t) (nI (md + 1)) y3 y4 := by
  unfold wpY_send
  refine ym_task1 ht hT (br_f mr_10 ?_)
  refine ym_name1 hm hN (br_f mr_10 (nm_r mr_yc ⟨vp_in_nI (by omega) (by omega), nm_r (e' := ty (t * 9 + (md + 1))) (by rw [nI_clamp (by omega)]) ?_⟩))
  by_cases z1 : ty (t * 9 + (md + 1)) = 2
  · exact br_t z1 hp
  · by_cases z2 : ty (t * 9 + (md + 1)) = 3
    · exact br_f z1 (br_t z2 hp)
    · exact br_f z1 (br_f z2 (br_t ((h0.resolve_left z1).resolve_left z2) hp))
theorem ym_59D {post : Int32 → SY → Prop} {y4 : Int32} (hy : y4 < 0 ∨ ¬ y4 ≤ 6) (hp : post (-3) (nI T, nI P, nI N, nI Q, nI al, ic, r0, r1, r2, r3, ty, dy, st, S, O, ar, qi, qk, qp, ly, wl)) : wY_send_59 post (nI t) y2 y3 y4 y5 y6 (nI T) (nI P) (nI N) (nI Q) (nI al) ic r0 r1 r2 r3 ty dy st S O ar qi qk qp ly wl := by
  by_cases z : y4 < 0
  · exact br_t z hp
  · exact br_f z (br_f (hy.resolve_left z) hp)
theorem ym_590 {post : Int32 → SY → Prop} (hp : wY_send_188 post y2 y3 0 y5 y6 (-1) 0 (nI T) (nI P) (nI N) (nI Q) (nI al) ic r0 r1 r2 r3 ty dy st S O ar qi qk qp ly wl) : wY_send_59 post (nI t) y2 y3 0 y5 y6 (nI T) (nI P) (nI N) (nI Q) (nI al) ic r0 r1 r2 r3 ty dy st S O ar qi qk qp ly wl :=
  br_f (by decide) (br_t (by decide) (br_t rfl hp))
theorem ym_59N {post : Int32 → SY → Prop} (hd : mr_d16 d) (hy : y3 < 1 ∨ nI N < y3) (hp : post (-2) (nI T, nI P, nI N, nI Q, nI al, ic, r0, r1, r2, r3, ty, dy, st, S, O, ar, qi, qk, qp, ly, wl)) : wY_send_59 post (nI t) y2 y3 d y5 y6 (nI T) (nI P) (nI N) (nI Q) (nI al) ic r0 r1 r2 r3 ty dy st S O ar qi qk qp ly wl := by
  have d1 : ¬ d < 0 ∧ d ≤ 6 ∧ ¬ d = 0 := by
    rcases hd with rfl | rfl | rfl | rfl | rfl | rfl <;> decide
  refine br_f d1.1 (br_t d1.2.1 (br_f d1.2.2 ?_))
  exact ym_name0 hy (br_t rfl hp)
theorem ym_596 {post : Int32 → SY → Prop} (ht : t < 4) (hm : mc < N) (hN : N ≤ 8) (hd : mr_d16 d) (hk : mr_tok (ty (t * 9 + (mc + 1)))) (h2 : ¬ mr_nd d (ty (t * 9 + (mc + 1))) → post (-2) (nI T, nI P, nI N, nI Q, nI al, ic, r0, r1, r2, r3, ty, dy, st, S, O, ar, qi, qk, qp, ly, wl)) (hq : mr_nd d (ty (t * 9 + (mc + 1))) → wY_send_188 post y2 (nI (mc + 1)) d y5 y6 (dy (t * 9 + (mc + 1))) (nI (t * 9 + (mc + 1))) (nI T) (nI P) (nI N) (nI Q) (nI al) ic r0 r1 r2 r3 ty dy st S O ar qi qk qp ly wl) : wY_send_59 post (nI t) y2 (nI (mc + 1)) d y5 y6 (nI T) (nI P) (nI N) (nI Q) (nI al) ic r0 r1 r2 r3 ty dy st S O ar qi qk qp ly wl := by
  have d1 : ¬ d < 0 ∧ d ≤ 6 ∧ ¬ d = 0 := by
    rcases hd with rfl | rfl | rfl | rfl | rfl | rfl <;> decide
  have vc : vp_in (nI (t * 9 + (mc + 1))) 36 := vp_in_nI (by omega) (by omega)
  have cc : (nI (t * 9 + (mc + 1))).toNatClampNeg = t * 9 + (mc + 1) := nI_clamp (by omega)
  have G : mr_nd d (ty (t * 9 + (mc + 1))) → wY_send_179 post y2 (nI (mc + 1)) d y5 y6 (nI (t * 9 + (mc + 1))) (nI T) (nI P) (nI N) (nI Q) (nI al) ic r0 r1 r2 r3 ty dy st S O ar qi qk qp ly wl := fun a => ⟨vc, nm_r (e' := dy (t * 9 + (mc + 1))) (by rw [cc]) (hq a)⟩
  refine br_f d1.1 (br_t d1.2.1 (br_f d1.2.2 ?_))
  refine ym_name1 hm hN (br_f mr_10 (nm_r mr_yc ⟨vc, nm_r (e' := ty (t * 9 + (mc + 1))) (by rw [cc]) ?_⟩))
  have a1 := mr_a1 hk
  have a2 := mr_a2 hk
  unfold mr_nd at G h2
  have A : (d = 1 ∨ d = 4 ∨ d = 6) → wY_send_132 post y2 (nI (mc + 1)) d y5 y6 (nI (t * 9 + (mc + 1))) (ty (t * 9 + (mc + 1))) (nI T) (nI P) (nI N) (nI Q) (nI al) ic r0 r1 r2 r3 ty dy st S O ar qi qk qp ly wl := by
    intro q
    have n5 : ¬ d = 5 := by rcases q with rfl | rfl | rfl <;> decide
    have n2 : ¬ d = 2 := by rcases q with rfl | rfl | rfl <;> decide
    have n3 : ¬ d = 3 := by rcases q with rfl | rfl | rfl <;> decide
    by_cases z : ty (t * 9 + (mc + 1)) &&& 1 = 0
    · refine br_t z (h2 (fun b => ?_))
      rcases b with b | b | b
      · exact a1.mp z b.2
      · exact b.1.elim n2 n3
      · exact n5 b.1
    · have b : ty (t * 9 + (mc + 1)) = 1 ∨ ty (t * 9 + (mc + 1)) = 3 := Classical.byContradiction (fun c => z (a1.mpr c))
      exact br_f z (br_f n2 (br_f n3 (br_f n5 (G (Or.inl ⟨q, b⟩)))))
  have B : ¬ (d = 1 ∨ d = 4 ∨ d = 6) → wY_send_142 post y2 (nI (mc + 1)) d y5 y6 (nI (t * 9 + (mc + 1))) (ty (t * 9 + (mc + 1))) (nI T) (nI P) (nI N) (nI Q) (nI al) ic r0 r1 r2 r3 ty dy st S O ar qi qk qp ly wl := by
    intro q
    have C : (d = 2 ∨ d = 3) → wY_send_154 post y2 (nI (mc + 1)) d y5 y6 (nI (t * 9 + (mc + 1))) (ty (t * 9 + (mc + 1))) (nI T) (nI P) (nI N) (nI Q) (nI al) ic r0 r1 r2 r3 ty dy st S O ar qi qk qp ly wl := by
      intro q2
      have n5 : ¬ d = 5 := by rcases q2 with rfl | rfl <;> decide
      by_cases z : ty (t * 9 + (mc + 1)) &&& 2 = 0
      · refine br_t z (h2 (fun b => ?_))
        rcases b with b | b | b
        · exact q b.1
        · exact a2.mp z b.2
        · exact n5 b.1
      · have b : ty (t * 9 + (mc + 1)) = 2 ∨ ty (t * 9 + (mc + 1)) = 3 := Classical.byContradiction (fun c => z (a2.mpr c))
        exact br_f z (br_f n5 (G (Or.inr (Or.inl ⟨q2, b⟩))))
    by_cases z2 : d = 2
    · exact br_t z2 (C (Or.inl z2))
    · by_cases z3 : d = 3
      · exact br_f z2 (br_t z3 (C (Or.inr z3)))
      · have z5 : d = 5 := by
          rcases hd with b | b | b | b | b | b
          · exact absurd (Or.inl b) q
          · exact absurd b z2
          · exact absurd b z3
          · exact absurd (Or.inr (Or.inl b)) q
          · exact b
          · exact absurd (Or.inr (Or.inr b)) q
        refine br_f z2 (br_f z3 (br_t z5 ?_))
        by_cases z : ty (t * 9 + (mc + 1)) = 4
        · exact br_t z (G (Or.inr (Or.inr ⟨z5, z⟩)))
        · refine br_f z (h2 (fun b => ?_))
          rcases b with b | b | b
          · exact q b.1
          · exact b.1.elim z2 z3
          · exact z b.2
  by_cases w1 : d = 1
  · exact br_t w1 (A (Or.inl w1))
  · by_cases w4 : d = 4
    · exact br_f w1 (br_t w4 (A (Or.inr (Or.inl w4))))
    · by_cases w6 : d = 6
      · exact br_f w1 (br_f w4 (br_t w6 (A (Or.inr (Or.inr w6)))))
      · exact br_f w1 (br_f w4 (br_f w6 (B (fun b => b.elim w1 (fun c => c.elim w4 w6)))))
theorem ym_188 {post : Int32 → SY → Prop} (hs : (d = 2 ∨ d = 5) → y3 = y2 → post (-3) (nI T, nI P, nI N, nI Q, nI al, ic, r0, r1, r2, r3, ty, dy, st, S, O, ar, qi, qk, qp, ly, wl)) (hq : ¬ ((d = 2 ∨ d = 5) ∧ y3 = y2) → wY_send_208 post d y5 y6 y7 y8 (nI T) (nI P) (nI N) (nI Q) (nI al) ic r0 r1 r2 r3 ty dy st S O ar qi qk qp ly wl) : wY_send_188 post y2 y3 d y5 y6 y7 y8 (nI T) (nI P) (nI N) (nI Q) (nI al) ic r0 r1 r2 r3 ty dy st S O ar qi qk qp ly wl := by
  have G : (d = 2 ∨ d = 5) → wY_send_200 post y2 y3 d y5 y6 y7 y8 (nI T) (nI P) (nI N) (nI Q) (nI al) ic r0 r1 r2 r3 ty dy st S O ar qi qk qp ly wl := by
    intro a
    by_cases z : y3 = y2
    · exact br_t z (hs a z)
    · exact br_f z (hq (fun b => z b.2))
  by_cases z1 : d = 2
  · exact br_t z1 (G (Or.inl z1))
  · by_cases z2 : d = 5
    · exact br_f z1 (br_t z2 (G (Or.inr z2)))
    · exact br_f z1 (br_f z2 (hq (fun b => b.1.elim z1 z2)))
theorem ym_208n {post : Int32 → SY → Prop} (hc : n < 36) (hd : dy n = nI D) (hD : D < P) (hP : P ≤ 16) (h1 : ¬ d = 1) (hq : wY_send_254 post d (nI n) y6 y7 y8 (nI D) (nI T) (nI P) (nI N) (nI Q) (nI al) ic r0 r1 r2 r3 ty dy st S O ar qi qk qp ly wl) : wY_send_208 post d (nI n) y6 y7 y8 (nI T) (nI P) (nI N) (nI Q) (nI al) ic r0 r1 r2 r3 ty dy st S O ar qi qk qp ly wl :=
  ⟨vp_in_nI hc (by omega), nm_r (e' := nI D) (by rw [nI_clamp (by omega)]; exact hd) (br_f (nI_pos (by omega)) (br_t (nI_lt hD (by omega)) (br_f h1 hq)))⟩
theorem ym_208c {post : Int32 → SY → Prop} {r : Nat} (hc : n < 36) (hd : dy n = nI D) (hD : D < P) (hP : P ≤ 16) (hal : al ≤ P) (hQ : Q ≤ 8) (hI : mr_I T N Q al (fun _ => False) 16 ty dy st S O ar h qk qp l) (hl : mr_LY l ly) (hc16 : c < 16) (hrc : mr_rc st h r D) (h6 : mr_on h c r D → post (-6) (nI T, nI P, nI N, nI Q, nI al, ic, r0, r1, r2, r3, ty, dy, st, S, O, ar, qi, qk, qp, ly, wl)) (h0 : ¬ mr_on h c r D → wY_send_254 post 1 (nI n) y6 (nI c) y8 (nI D) (nI T) (nI P) (nI N) (nI Q) (nI al) ic r0 r1 r2 r3 ty dy st S O ar qi qk qp ly wl) : wY_send_208 post 1 (nI n) y6 (nI c) y8 (nI T) (nI P) (nI N) (nI Q) (nI al) ic r0 r1 r2 r3 ty dy st S O ar qi qk qp ly wl := by
  refine ⟨vp_in_nI hc (by omega), nm_r (e' := nI D) (by rw [nI_clamp (by omega)]; exact hd) (br_f (nI_pos (by omega)) (br_t (nI_lt hD (by omega)) (br_t rfl ?_)))⟩
  exact ym_cy hP hal hQ hI hl hc16 hrc hD (fun a => br_f mr_10 (h6 a)) (fun a => br_t rfl (h0 a))
theorem ym_254 {post : Int32 → SY → Prop} (hD : D < P) (hP : P ≤ 16) (h9 : x ≤ 9) (hl : ly D = nI x) (hQ : Q ≤ 8) (hc : n < 36) (hlv : mr_lv st D) (hf : Q ≤ mr_oc qk (D * 9) x → post (-4) (nI T, nI P, nI N, nI Q, nI al, ic, r0, r1, r2, r3, ty, dy, st, S, O, ar, qi, qk, qp, ly, wl)) (h4 : mr_oc qk (D * 9) x < Q → y6 = 4 → wY_send_288 post d y7 y8 (nI D) (nI T) (nI P) (nI N) (nI Q) (nI al) ic r0 r1 r2 r3 (upd ty n 0) (upd dy n (-1)) st S (upd O D (O D - 1)) ar qi qk qp ly wl) (h0 : mr_oc qk (D * 9) x < Q → ¬ y6 = 4 → wY_send_288 post d y7 y8 (nI D) (nI T) (nI P) (nI N) (nI Q) (nI al) ic r0 r1 r2 r3 ty dy st S O ar qi qk qp ly wl) : wY_send_254 post d (nI n) y6 y7 y8 (nI D) (nI T) (nI P) (nI N) (nI Q) (nI al) ic r0 r1 r2 r3 ty dy st S O ar qi qk qp ly wl := by
  have o := mr_ocle qk (D * 9) x
  unfold wY_send_254
  refine ym_oc (by omega) h9 hl ?_
  by_cases z : mr_oc qk (D * 9) x < Q
  · refine br_t (nI_lt z (by omega)) ?_
    by_cases z4 : y6 = 4
    · refine br_t z4 (ym_free hc ?_)
      exact ym_so1 hD hP hlv (h4 z z4)
    · exact br_f z4 (h0 z z4)
  · exact br_f (nI_nlt (by omega) (by omega)) (hf (by omega))
/-! the end, disposition by disposition -/
theorem ym_447 {post : Int32 → SY → Prop} (hD : D < P) (hP : P ≤ 16) (hn : x ≤ 8) (hl : ly D = nI x) (hp : post (ic + 1) (nI T, nI P, nI N, nI Q, nI al, ic + 1, r0, r1, r2, r3, ty, dy, st, S, O, ar, upd qi (D * 9 + x) (ic + 1), upd qk (D * 9 + x) k, upd qp (D * 9 + x) z, upd ly D (nI (x + 1)), wl)) : wY_send_447 post z (nI D) k (nI T) (nI P) (nI N) (nI Q) (nI al) ic r0 r1 r2 r3 ty dy st S O ar qi qk qp ly wl := by
  unfold wY_send_447
  exact ym_append hD hP hn hl hp
theorem ym_2880 {post : Int32 → SY → Prop} (hp : wY_send_447 post y7 (nI D) 0 (nI T) (nI P) (nI N) (nI Q) (nI al) ic r0 r1 r2 r3 ty dy st S O ar qi qk qp ly wl) : wY_send_288 post 0 y7 y8 (nI D) (nI T) (nI P) (nI N) (nI Q) (nI al) ic r0 r1 r2 r3 ty dy st S O ar qi qk qp ly wl :=
  br_f (by decide) (br_f (by decide) (br_f (by decide) (br_f (by decide) (br_f (by decide) (br_f (by decide) hp)))))
theorem ym_2881 {post : Int32 → SY → Prop} (hc : n < 36) (h16 : c < 16) (hv : (ty n = 1 ∧ v = 0 ∧ w = -1) ∨ (ty n = 3 ∧ v = 2 ∧ w = dy n)) (hp : wY_send_447 post (nI c) (nI D) 3 (nI T) (nI P) (nI N) (nI Q) (nI al) ic r0 r1 r2 r3 (upd ty n v) (upd dy n w) (upd st c 2) S O ar qi qk qp ly wl) : wY_send_288 post 1 (nI c) (nI n) (nI D) (nI T) (nI P) (nI N) (nI Q) (nI al) ic r0 r1 r2 r3 ty dy st S O ar qi qk qp ly wl := by
  have vc : vp_in (nI n) 36 := vp_in_nI hc (by omega)
  have cc : (nI n).toNatClampNeg = n := nI_clamp (by omega)
  have v1 : vp_in (nI c) 16 := vp_in_nI h16 (by omega)
  have c1 : (nI c).toNatClampNeg = c := nI_clamp (by omega)
  refine br_t rfl ⟨vc, ?_⟩
  rcases hv with ⟨a, rfl, rfl⟩ | ⟨a, rfl, rfl⟩
  · refine br_f (by rw [cc, a]; decide) (ym_free hc ?_)
    exact ⟨v1, nm_r (e' := upd st c 2) (by rw [c1]) hp⟩
  · rw [mr_ui rfl] at hp
    refine br_t (by rw [cc]; exact a) ⟨vc, nm_r (e' := upd ty n 2) (by rw [cc]) ?_⟩
    exact ⟨v1, nm_r (e' := upd st c 2) (by rw [c1]) hp⟩
theorem ym_2882 {post : Int32 → SY → Prop} (hc : n < 36) (hv : (ty n = 2 ∧ v = 0 ∧ w = -1) ∨ (ty n = 3 ∧ v = 1 ∧ w = dy n)) (hp : wY_send_447 post y7 (nI D) 1 (nI T) (nI P) (nI N) (nI Q) (nI al) ic r0 r1 r2 r3 (upd ty n v) (upd dy n w) st S O ar qi qk qp ly wl) : wY_send_288 post 2 y7 (nI n) (nI D) (nI T) (nI P) (nI N) (nI Q) (nI al) ic r0 r1 r2 r3 ty dy st S O ar qi qk qp ly wl := by
  have vc : vp_in (nI n) 36 := vp_in_nI hc (by omega)
  have cc : (nI n).toNatClampNeg = n := nI_clamp (by omega)
  refine br_f (by decide) (br_t rfl ⟨vc, ?_⟩)
  rcases hv with ⟨a, rfl, rfl⟩ | ⟨a, rfl, rfl⟩
  · exact br_f (by rw [cc, a]; decide) (ym_free hc hp)
  · rw [mr_ui rfl] at hp
    exact br_t (by rw [cc]; exact a) ⟨vc, nm_r (e' := upd ty n 1) (by rw [cc]) hp⟩
theorem ym_2883 {post : Int32 → SY → Prop} (h16 : c < 16) (hd : d = 3 ∨ d = 4) (hp : wY_send_447 post (nI c) (nI D) 1 (nI T) (nI P) (nI N) (nI Q) (nI al) ic r0 r1 r2 r3 ty dy st (upd S c (S c + 1)) O ar qi qk qp ly wl) : wY_send_288 post d (nI c) y8 (nI D) (nI T) (nI P) (nI N) (nI Q) (nI al) ic r0 r1 r2 r3 ty dy st S O ar qi qk qp ly wl := by
  have v1 : vp_in (nI c) 16 := vp_in_nI h16 (by omega)
  have c1 : (nI c).toNatClampNeg = c := nI_clamp (by omega)
  have G : wY_send_391 post (nI c) (nI D) (nI T) (nI P) (nI N) (nI Q) (nI al) ic r0 r1 r2 r3 ty dy st S O ar qi qk qp ly wl := ⟨v1, v1, nm_r (e' := upd S c (S c + 1)) (by rw [c1]) hp⟩
  rcases hd with rfl | rfl
  · exact br_f (by decide) (br_f (by decide) (br_t rfl G))
  · exact br_f (by decide) (br_f (by decide) (br_f (by decide) (br_t rfl G)))
theorem ym_2885 {post : Int32 → SY → Prop} (hc : n < 36) (hp : wY_send_447 post y7 (nI D) 2 (nI T) (nI P) (nI N) (nI Q) (nI al) ic r0 r1 r2 r3 (upd ty n 0) (upd dy n (-1)) st S O ar qi qk qp ly wl) : wY_send_288 post 5 y7 (nI n) (nI D) (nI T) (nI P) (nI N) (nI Q) (nI al) ic r0 r1 r2 r3 ty dy st S O ar qi qk qp ly wl := by
  refine br_f (by decide) (br_f (by decide) (br_f (by decide) (br_f (by decide) (br_f (by decide) (br_t rfl ?_)))))
  exact ym_free hc hp
theorem ym_2886 {post : Int32 → SY → Prop} (h16 : c < 16) (hp : wY_send_447 post (nI c) (nI D) 2 (nI T) (nI P) (nI N) (nI Q) (nI al) ic r0 r1 r2 r3 ty dy st S (upd O c (O c + 1)) ar qi qk qp ly wl) : wY_send_288 post 6 (nI c) y8 (nI D) (nI T) (nI P) (nI N) (nI Q) (nI al) ic r0 r1 r2 r3 ty dy st S O ar qi qk qp ly wl := by
  have v1 : vp_in (nI c) 16 := vp_in_nI h16 (by omega)
  have c1 : (nI c).toNatClampNeg = c := nI_clamp (by omega)
  exact br_f (by decide) (br_f (by decide) (br_f (by decide) (br_f (by decide) (br_t rfl ⟨v1, v1, nm_r (e' := upd O c (O c + 1)) (by rw [c1]) hp⟩))))
end
