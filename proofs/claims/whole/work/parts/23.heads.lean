/-! the head of a queue is removed; holders and cycles in the reference -/
section
variable {W W' : Nat → Prop} {e off T P N Q al p n t m x c D : Nat} {l : Nat → Nat} {dc ic r0 r1 r2 r3 : Int32} {tx dx st S O ar lx h mi mk mp wl rc ty dy qi qk qp ly : Nat → Int32} {v w i k z : Int32}
theorem mr_p1v {j b : Nat} (hj : j + 1 < b) (hb : b < 1000) : vp_in (nI j + 1) b := by
  rw [nI_1]
  exact vp_in_nI hj (by omega)
theorem mr_p1c {j : Nat} (hj : j < 1000) : (nI j + 1).toNatClampNeg = j + 1 := by
  rw [nI_1]
  exact nI_clamp (by omega)
theorem xm_reL {post : SX → Prop} (hp : p < 16) (h8 : n ≤ 8) (hq : ∀ mi' mk' mp', mr_Sh p n mi mi' → mr_Sh p n mk mk' → mr_Sh p n mp mp' → post (nI T, nI P, nI N, nI Q, dc, nI al, ic, tx, dx, st, S, O, ar, lx, h, mi', mk', mp', wl, rc)) : ∀ d i, i + d = n → ∀ mi' mk' mp', mr_Sh p i mi mi' → mr_Sh p i mk mk' → mr_Sh p i mp mp' → wX_removeHead_24 post (nI (p * 9)) (nI n) (nI T) (nI P) (nI N) (nI Q) dc (nI al) ic (d + 1) (nI i) tx dx st S O ar lx h mi' mk' mp' wl rc := by
  intro d
  induction d with
  | zero =>
    intro i hi mi' mk' mp' s1 s2 s3
    have e : i = n := by omega
    rw [e] at s1 s2 s3 ⊢
    exact br_t (nI_le (Nat.le_refl _) (by omega)) (hq mi' mk' mp' s1 s2 s3)
  | succ d ih =>
    intro i hi mi' mk' mp' s1 s2 s3
    have v0 : vp_in (nI (p * 9 + i)) 144 := vp_in_nI (by omega) (by omega)
    have c0 : (nI (p * 9 + i)).toNatClampNeg = p * 9 + i := nI_clamp (by omega)
    have v1 : vp_in (nI (p * 9 + i) + 1) 144 := mr_p1v (by omega) (by omega)
    have c1 : (nI (p * 9 + i) + 1).toNatClampNeg = p * 9 + (i + 1) := mr_p1c (by omega)
    exact br_f (nI_ge (by omega) (by omega)) (nm_r (nI_add (p * 9) i) ⟨v1, v0, nm_r (e' := upd mi' (p * 9 + i) (mi' (p * 9 + (i + 1)))) (by rw [c0, c1]) ⟨v1, v0, nm_r (e' := upd mk' (p * 9 + i) (mk' (p * 9 + (i + 1)))) (by rw [c0, c1]) ⟨v1, v0, nm_r (e' := upd mp' (p * 9 + i) (mp' (p * 9 + (i + 1)))) (by rw [c0, c1]) (nm_r (nI_1 i) (ih (i + 1) (by omega) _ _ _ (mr_ShS s1) (mr_ShS s2) (mr_ShS s3)))⟩⟩⟩)
theorem xm_re {post : SX → Prop} (hp : p < 16) (h8 : n ≤ 8) (hl : lx p = nI (n + 1)) (hq : ∀ mi' mk' mp', mr_Sh p n mi mi' → mr_Sh p n mk mk' → mr_Sh p n mp mp' → post (nI T, nI P, nI N, nI Q, dc, nI al, ic, tx, dx, st, S, O, ar, upd lx p (nI n), h, mi', mk', mp', wl, rc)) : wpX_removeHead post (nI T, nI P, nI N, nI Q, dc, nI al, ic, tx, dx, st, S, O, ar, lx, h, mi, mk, mp, wl, rc) (nI p) := by
  have v1 : vp_in (nI p) 16 := vp_in_nI hp (by omega)
  have c1 : (nI p).toNatClampNeg = p := nI_clamp (by omega)
  unfold wpX_removeHead
  refine nm_r mr_9 ⟨v1, nm_r (e' := nI n) (by rw [c1, hl, nI_pred]) ⟨v1, nm_r (e' := upd lx p (nI n)) (by rw [c1]) ⟨n + 1, ?_⟩⟩⟩
  exact xm_reL hp h8 hq n 0 (by omega) mi mk mp mr_Sh0 mr_Sh0 mr_Sh0
theorem ym_reL {post : SY → Prop} (hp : p < 16) (h8 : n ≤ 8) (hl : ly p = nI (n + 1)) (hq : ∀ qi' qk' qp', mr_Sh p n qi qi' → mr_Sh p n qk qk' → mr_Sh p n qp qp' → post (nI T, nI P, nI N, nI Q, nI al, ic, r0, r1, r2, r3, ty, dy, st, S, O, ar, qi', qk', qp', upd ly p (nI n), wl)) : ∀ d i, i + d = 8 → ∀ s, (s = i ∧ i ≤ n) ∨ (s = n ∧ n ≤ i) → ∀ qi' qk' qp', mr_Sh p s qi qi' → mr_Sh p s qk qk' → mr_Sh p s qp qp' → wY_removeHead_29 post (nI p) (nI (p * 9)) (nI T) (nI P) (nI N) (nI Q) (nI al) ic r0 r1 r2 r3 (d + 1) (nI i) ty dy st S O ar qi' qk' qp' ly wl := by
  have vp : vp_in (nI p) 16 := vp_in_nI hp (by omega)
  have cp : (nI p).toNatClampNeg = p := nI_clamp (by omega)
  intro d
  induction d with
  | zero =>
    intro i hi s hs qi' qk' qp' s1 s2 s3
    have e : s = n := by omega
    rw [e] at s1 s2 s3
    exact br_t (nI_le (a := 8) (by omega) (by omega)) ⟨vp, vp, nm_r (e' := upd ly p (nI n)) (by rw [cp, hl, nI_pred]) (hq qi' qk' qp' s1 s2 s3)⟩
  | succ d ih =>
    intro i hi s hs qi' qk' qp' s1 s2 s3
    refine br_f (nI_ge (b := 8) (by omega) (by omega)) ⟨vp, ?_⟩
    by_cases z : n ≤ i
    · have c : ly (nI p).toNatClampNeg ≤ nI i + 1 := by
        rw [cp, hl, nI_1]
        exact nI_le (by omega) (by omega)
      exact br_t c (nm_r (nI_1 i) (ih (i + 1) (by omega) s (by omega) qi' qk' qp' s1 s2 s3))
    · have c : ¬ ly (nI p).toNatClampNeg ≤ nI i + 1 := by
        rw [cp, hl, nI_1]
        exact nI_ge (by omega) (by omega)
      have e : s = i := by omega
      rw [e] at s1 s2 s3
      have ea : nI (p * 9) + nI i = nI (p * 9 + i) := nI_add _ _
      have v0 : vp_in (nI (p * 9) + nI i) 144 := by
        rw [ea]
        exact vp_in_nI (by omega) (by omega)
      have c0 : (nI (p * 9) + nI i).toNatClampNeg = p * 9 + i := by
        rw [ea]
        exact nI_clamp (by omega)
      have v1 : vp_in (nI (p * 9) + nI i + 1) 144 := by
        rw [ea]
        exact mr_p1v (by omega) (by omega)
      have c1 : (nI (p * 9) + nI i + 1).toNatClampNeg = p * 9 + (i + 1) := by
        rw [ea]
        exact mr_p1c (by omega)
      exact br_f c ⟨v1, v0, nm_r (e' := upd qi' (p * 9 + i) (qi' (p * 9 + (i + 1)))) (by rw [c0, c1]) ⟨v1, v0, nm_r (e' := upd qk' (p * 9 + i) (qk' (p * 9 + (i + 1)))) (by rw [c0, c1]) ⟨v1, v0, nm_r (e' := upd qp' (p * 9 + i) (qp' (p * 9 + (i + 1)))) (by rw [c0, c1]) (nm_r (nI_1 i) (ih (i + 1) (by omega) (i + 1) (by omega) _ _ _ (mr_ShS s1) (mr_ShS s2) (mr_ShS s3)))⟩⟩⟩
theorem ym_re {post : SY → Prop} (hp : p < P) (hP : P ≤ 16) (h8 : n ≤ 8) (hl : ly p = nI (n + 1)) (hq : ∀ qi' qk' qp', mr_Sh p n qi qi' → mr_Sh p n qk qk' → mr_Sh p n qp qp' → post (nI T, nI P, nI N, nI Q, nI al, ic, r0, r1, r2, r3, ty, dy, st, S, O, ar, qi', qk', qp', upd ly p (nI n), wl)) : wpY_removeHead post (nI T, nI P, nI N, nI Q, nI al, ic, r0, r1, r2, r3, ty, dy, st, S, O, ar, qi, qk, qp, ly, wl) (nI p) := by
  have v1 : vp_in (nI p) 16 := vp_in_nI (by omega) (by omega)
  have c1 : (nI p).toNatClampNeg = p := nI_clamp (by omega)
  have a1 : ¬ nI p < 0 := nI_pos (by omega)
  have a2 : ¬ nI P ≤ nI p := nI_ge hp (by omega)
  have a3 : 0 < ly (nI p).toNatClampNeg := by
    rw [c1, hl]
    exact nI_lt (a := 0) (by omega) (by omega)
  unfold wpY_removeHead
  refine br_f a1 (br_f a2 ⟨v1, br_t a3 (nm_r mr_9 ⟨9, ?_⟩)⟩)
  exact ym_reL (by omega) h8 hl hq 8 0 (by omega) 0 (by omega) qi qk qp mr_Sh0 mr_Sh0 mr_Sh0
/-! who holds port x -/
theorem ym_hiL {post J : Int32 → Prop} (hp : p < 16) (h9 : n ≤ 9) (hl : ly p = nI n) (h1 : (∃ i, i < n ∧ qk (p * 9 + i) = 3 ∧ qp (p * 9 + i) = nI x) → post (nI p)) (h0 : (∀ i, i < n → ¬ (qk (p * 9 + i) = 3 ∧ qp (p * 9 + i) = nI x)) → J (nI (p + 1))) : ∀ d i, i + d = n → (∀ j, j < i → ¬ (qk (p * 9 + j) = 3 ∧ qp (p * 9 + j) = nI x)) → wY_holder_12 post J (nI x) (nI p) (nI T) (nI P) (nI N) (nI Q) (nI al) ic r0 r1 r2 r3 ty dy st S O ar qi qk qp ly wl (d + 1) (nI i) := by
  have vp : vp_in (nI p) 16 := vp_in_nI hp (by omega)
  have cp : (nI p).toNatClampNeg = p := nI_clamp (by omega)
  intro d
  induction d with
  | zero =>
    intro i hi hn
    exact ⟨vp, br_t (by rw [cp, hl]; exact nI_le (by omega) (by omega)) (nm_r (nI_1 p) (h0 (fun j hj => hn j (by omega))))⟩
  | succ d ih =>
    intro i hi hn
    have c1 := mr_qc (p := p) (i := i) hp (by omega)
    have v1 := mr_qv (p := p) (i := i) hp (by omega)
    have nx : ¬ (qk (p * 9 + i) = 3 ∧ qp (p * 9 + i) = nI x) → ∀ y, y = nI i + 1 → wY_holder_12 post J (nI x) (nI p) (nI T) (nI P) (nI N) (nI Q) (nI al) ic r0 r1 r2 r3 ty dy st S O ar qi qk qp ly wl (d + 1) y := fun z => nm_r (nI_1 i) (ih (i + 1) (by omega) (fun j hj => by
      by_cases q : j = i
      · rw [q]; exact z
      · exact hn j (by omega)))
    refine ⟨vp, br_f (by rw [cp, hl]; exact nI_ge (by omega) (by omega)) (br_f (nI_ge (b := 9) (by omega) (by omega)) ⟨v1, ?_⟩)⟩
    by_cases z1 : qk (p * 9 + i) = 3
    · refine br_t (by rw [c1]; exact z1) ⟨v1, ?_⟩
      by_cases z2 : qp (p * 9 + i) = nI x
      · exact br_t (by rw [c1]; exact z2) (h1 ⟨i, by omega, z1, z2⟩)
      · exact br_f (by rw [c1]; exact z2) (nx (fun q => z2 q.2))
    · exact br_f (by rw [c1]; exact z1) (nx (fun q => z1 q.1))
theorem ym_hoL {post : Int32 → Prop} {q : Nat} (hP : P ≤ 16) (hq : q < P) (hl : mr_LY l ly) (h9 : ∀ p, p < 16 → l p ≤ 9) (hm : ∃ i, i < l q ∧ qk (q * 9 + i) = 3 ∧ qp (q * 9 + i) = nI x) (hu : ∀ q' i', q' < 16 → i' < l q' → qk (q' * 9 + i') = 3 → qp (q' * 9 + i') = nI x → q' = q) (hp : post (nI q)) : ∀ d p, p + d = q → wY_holder_2 post (nI x) (nI T) (nI P) (nI N) (nI Q) (nI al) ic r0 r1 r2 r3 ty dy st S O ar qi qk qp ly wl (d + 1) (nI p) := by
  intro d
  induction d with
  | zero =>
    intro p hi
    have e : p = q := by omega
    rw [e]
    refine br_f (nI_ge (by omega) (by omega)) ⟨l q + 1, ?_⟩
    exact ym_hiL (by omega) (h9 q (by omega)) (hl q (by omega)) (fun _ => hp) (fun a => by
      obtain ⟨i, b1, b2, b3⟩ := hm
      exact absurd ⟨b2, b3⟩ (a i b1)) (l q) 0 (by omega) (fun j hj => absurd hj (by omega))
  | succ d ih =>
    intro p hi
    refine br_f (nI_ge (by omega) (by omega)) ⟨l p + 1, ?_⟩
    exact ym_hiL (by omega) (h9 p (by omega)) (hl p (by omega)) (fun a => by
      obtain ⟨i, b1, b2, b3⟩ := a
      have := hu p i (by omega) b1 b2 b3
      omega) (fun _ => ih (p + 1) (by omega)) (l p) 0 (by omega) (fun j hj => absurd hj (by omega))
theorem ym_ho {post : Int32 → Prop} {q : Nat} (hP : P ≤ 16) (hq : q < P) (hl : mr_LY l ly) (h9 : ∀ p, p < 16 → l p ≤ 9) (hm : ∃ i, i < l q ∧ qk (q * 9 + i) = 3 ∧ qp (q * 9 + i) = nI x) (hu : ∀ q' i', q' < 16 → i' < l q' → qk (q' * 9 + i') = 3 → qp (q' * 9 + i') = nI x → q' = q) (hp : post (nI q)) : wpY_holder post (nI T, nI P, nI N, nI Q, nI al, ic, r0, r1, r2, r3, ty, dy, st, S, O, ar, qi, qk, qp, ly, wl) (nI x) :=
  ⟨q + 1, ym_hoL hP hq hl h9 hm hu hp q 0 (by omega)⟩
theorem ym_cyL {post : Int32 → Prop} (hP : P ≤ 16) (hal : al ≤ P) (hQ : Q ≤ 8) (hI : mr_I T N Q al (fun _ => False) 16 ty dy st S O ar h qk qp l) (hl : mr_LY l ly) (hc : c < 16) : ∀ r D, mr_rc st h r D → D < P → D ≠ c → ∀ j, j + r ≤ 16 → (mr_on h c r D → post 1) → (¬ mr_on h c r D → post 0) → ∀ n, r < n → wY_cycle_12 post (nI c) (nI T) (nI P) (nI N) (nI Q) (nI al) ic r0 r1 r2 r3 ty dy st S O ar qi qk qp ly wl n (nI D) (nI j) := by
  intro r
  induction r with
  | zero =>
    intro D hD hDP hne j hj h1 h0 n hn
    cases n with
    | zero => exact absurd hn (by omega)
    | succ n =>
      have c1 : (nI D).toNatClampNeg = D := nI_clamp (by omega)
      exact br_f (nI_ge (b := 17) (by omega) (by omega)) (br_f (nI_pos (by omega)) (br_f (nI_ge hDP (by omega)) ⟨vp_in_nI (by omega) (by omega), br_f (by rw [c1]; exact hD.2) (h0 hne)⟩))
  | succ r ih =>
    intro D hD hDP hne j hj h1 h0 n hn
    cases n with
    | zero => exact absurd hn (by omega)
    | succ n =>
      have c1 : (nI D).toNatClampNeg = D := nI_clamp (by omega)
      obtain ⟨a1, a2, q, a3, a4⟩ := hD
      obtain ⟨q', k1, k2, k3, k4⟩ := mr_hold hI a1 a2
      have q16 := mr_rc16 a4
      have ee : q' = q := mr_inj (k2.symm.trans a3) (by omega) (by omega)
      rw [ee] at k1 k3 k4
      have on := mr_onN (c := c) (r := r) hne a3 q16
      refine br_f (nI_ge (b := 17) (by omega) (by omega)) (br_f (nI_pos (by omega)) (br_f (nI_ge hDP (by omega)) ⟨vp_in_nI (by omega) (by omega), br_t (by rw [c1]; exact a2) ?_⟩))
      refine ym_ho hP (by omega) hl (fun p hp => mr_l9 hQ hI hp) k3 k4 ?_
      by_cases z : q = c
      · exact br_t (by rw [z]) (h1 (on.mpr (by rw [z]; exact mr_onS r)))
      · exact br_f (fun g => z (mr_inj g (by omega) (by omega))) (nm_r (nI_1 j) (ih q a4 (by omega) z (j + 1) (by omega) (fun g => h1 (on.mpr g)) (fun g => h0 (fun f => g (on.mp f))) n (by omega)))
theorem ym_cy {post : Int32 → Prop} {r : Nat} (hP : P ≤ 16) (hal : al ≤ P) (hQ : Q ≤ 8) (hI : mr_I T N Q al (fun _ => False) 16 ty dy st S O ar h qk qp l) (hl : mr_LY l ly) (hc : c < 16) (hD : mr_rc st h r D) (hDP : D < P) (h1 : mr_on h c r D → post 1) (h0 : ¬ mr_on h c r D → post 0) : wpY_cycle post (nI T, nI P, nI N, nI Q, nI al, ic, r0, r1, r2, r3, ty, dy, st, S, O, ar, qi, qk, qp, ly, wl) (nI c) (nI D) := by
  unfold wpY_cycle
  by_cases z : D = c
  · exact br_t (by rw [z]) (h1 (by rw [z]; exact mr_onS r))
  · exact br_f (fun g => z (mr_inj g (by omega) (by omega)).symm) ⟨r + 1, ym_cyL hP hal hQ hI hl hc r D hD hDP z 0 (by have := mr_rcb hD; omega) h1 h0 (r + 1) (by omega)⟩
end
