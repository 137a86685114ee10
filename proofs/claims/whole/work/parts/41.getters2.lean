/-! queueAt and lastReceived -/
section
variable {W W' : Nat → Prop} {e off T P N Q al p n t m x c D : Nat} {l : Nat → Nat} {dc ic r0 r1 r2 r3 : Int32} {tx dx st S O ar lx h mi mk mp wl rc ty dy qi qk qp ly : Nat → Int32} {v w i k z : Int32}
theorem ym_qaN {post : Int32 → Prop} {y2 y3 : Int32} (h1 : p < P) (hP : P ≤ 16) (hl : ¬ mr_lv st p) (hp : post (-1)) : wpY_queueAt post (nI T, nI P, nI N, nI Q, nI al, ic, r0, r1, r2, r3, ty, dy, st, S, O, ar, qi, qk, qp, ly, wl) (nI p) y2 y3 := by
  unfold wpY_queueAt
  exact ym_live0 (by omega) hP hl (br_t rfl hp)
end
theorem i_vc_queueAt {k : Nat} {u : SX} {v : SY} (I : i_Rel k u v) (hk : k + 5 ≤ 2564) (v1 : Int32) (v2 : Int32) (v3 : Int32) : wpX_queueAt (fun r => wpY_queueAt (fun r' => r' = r ∧ i_Rel (k + 5) u v) v v1 v2 v3) u v1 v2 v3 := by
  obtain ⟨T, P, N, Q, al, l, dc, ic, tx, dx, st, S, O, ar, lx, h, mi, mk, mp, wl, rc, ty, dy, qi, qk, qp, ly, rfl, rfl, hR⟩ := I
  obtain ⟨b1, b2, b3, b4, b5, b6⟩ := mr_Rb hR
  have F := mr_fin (kk := k + 5) (dc := dc) (ic := ic) (wl := wl) (rc := rc) hR rfl rfl rfl rfl
  rcases mr_tk (T := P) v1 (by omega) with hy | ⟨p, hp, rfl⟩
  · unfold wpX_queueAt
    refine xm_port0 hy (br_t rfl ?_)
    unfold wpY_queueAt
    exact ym_liveN hy (br_t rfl ⟨rfl, F⟩)
  · obtain ⟨e1, e2, e3, e4⟩ := mr_lxy hR (p := p) (by omega)
    have c1 : (nI p).toNatClampNeg = p := nI_clamp (by omega)
    have v0 : vp_in (nI p) 16 := vp_in_nI (by omega) (by omega)
    have g1 := hR.2.2.2.2.1
    have g2 := hR.2.2.2.2.2.1
    have g3 := hR.2.2.2.2.2.2.1
    unfold wpX_queueAt
    refine xm_port1 hp b3 (br_f mr_10 ?_)
    have YN : ∀ post : Int32 → Prop, post (-1) → (v2 < 0 ∨ nI (l p) ≤ v2) → wpY_queueAt post (nI T, nI P, nI N, nI Q, nI al, ic, rc 0, rc 1, rc 2, rc 3, ty, dy, st, S, O, ar, qi, qk, qp, ly, wl) (nI p) v2 v3 := by
      intro post hq hy
      by_cases hl : mr_lv st p
      · unfold wpY_queueAt
        refine ym_live1 hp b3 hl (br_f mr_10 ?_)
        by_cases a1 : v2 < 0
        · exact br_t a1 hq
        · exact br_f a1 ⟨v0, br_t (by rw [c1, e2]; exact hy.resolve_left a1) hq⟩
      · exact ym_qaN hp b3 hl hq
    rcases pk_ix v2 (n := l p) (by omega) with a | a | ⟨i, hi, rfl⟩
    · exact br_t a (YN _ ⟨rfl, F⟩ (Or.inl a))
    · by_cases a1 : v2 < 0
      · exact br_t a1 (YN _ ⟨rfl, F⟩ (Or.inl a1))
      · exact br_f a1 ⟨v0, br_f (by rw [c1, e1]; exact Int32.not_lt.mpr a) (YN _ ⟨rfl, F⟩ (Or.inr a))⟩
    · have hl : mr_lv st p := Classical.byContradiction (fun z => by
        have := e4 z
        omega)
      have v4 : vp_in (nI (p * 9 + i)) 144 := vp_in_nI (by omega) (by omega)
      have c4 : (nI (p * 9 + i)).toNatClampNeg = p * 9 + i := nI_clamp (by omega)
      have d1 := g1 p i (by omega) hi
      have d2 := g2 p i (by omega) hi
      have d3 := g3 p i (by omega) hi
      rw [if_neg (by omega), Nat.add_zero] at d1 d2 d3
      refine br_f (nI_pos (by omega)) ⟨v0, br_t (by rw [c1, e1]; exact nI_lt hi (by omega)) (nm_r mr_yc ?_)⟩
      have YY : ∀ (post : Int32 → Prop) (q : Int32), post q → (v3 = 0 → qi (p * 9 + i) = q) → (v3 = 1 → qk (p * 9 + i) = q) → (v3 = 2 → qp (p * 9 + i) = q) → (¬ v3 = 0 → ¬ v3 = 1 → ¬ v3 = 2 → q = -1) → wpY_queueAt post (nI T, nI P, nI N, nI Q, nI al, ic, rc 0, rc 1, rc 2, rc 3, ty, dy, st, S, O, ar, qi, qk, qp, ly, wl) (nI p) (nI i) v3 := by
        intro post q hq w0 w1 w2 w3
        unfold wpY_queueAt
        refine ym_live1 hp b3 hl (br_f mr_10 (br_f (nI_pos (by omega)) ⟨v0, br_f (by rw [c1, e2]; exact nI_ge hi (by omega)) (br_t (nI_lt (b := 9) (by omega) (by omega)) (nm_r mr_yc ?_))⟩))
        by_cases z0 : v3 = 0
        · refine br_t z0 ⟨v4, ?_⟩
          rw [c4, w0 z0]
          exact hq
        · by_cases z1 : v3 = 1
          · refine br_f z0 (br_t z1 ⟨v4, ?_⟩)
            rw [c4, w1 z1]
            exact hq
          · by_cases z2 : v3 = 2
            · refine br_f z0 (br_f z1 (br_t z2 ⟨v4, ?_⟩))
              rw [c4, w2 z2]
              exact hq
            · rw [w3 z0 z1 z2] at hq
              exact br_f z0 (br_f z1 (br_f z2 hq))
      by_cases z0 : v3 = 0
      · subst z0
        refine br_f (by decide) (br_f (by decide) (br_t rfl ⟨v4, ?_⟩))
        rw [c4]
        exact YY _ (mi (p * 9 + i)) ⟨rfl, F⟩ (fun _ => d1.symm) (fun a => absurd a (by decide)) (fun a => absurd a (by decide)) (fun a _ _ => absurd rfl a)
      · by_cases z1 : v3 = 1
        · subst z1
          refine br_f (by decide) (br_f (by decide) (br_f (by decide) (br_t rfl ⟨v4, ?_⟩)))
          rw [c4]
          exact YY _ (mk (p * 9 + i)) ⟨rfl, F⟩ (fun a => absurd a (by decide)) (fun _ => d2.symm) (fun a => absurd a (by decide)) (fun _ a _ => absurd rfl a)
        · by_cases z2 : v3 = 2
          · subst z2
            refine br_f (by decide) (br_f (by decide) (br_f (by decide) (br_f (by decide) (br_t rfl ⟨v4, ?_⟩))))
            rw [c4]
            exact YY _ (mp (p * 9 + i)) ⟨rfl, F⟩ (fun a => absurd a (by decide)) (fun a => absurd a (by decide)) (fun _ => d3.symm) (fun _ _ a => absurd rfl a)
          · have E := YY (fun r' => r' = -1 ∧ i_Rel (k + 5) (nI T, nI P, nI N, nI Q, dc, nI al, ic, tx, dx, st, S, O, ar, lx, h, mi, mk, mp, wl, rc) (nI T, nI P, nI N, nI Q, nI al, ic, rc 0, rc 1, rc 2, rc 3, ty, dy, st, S, O, ar, qi, qk, qp, ly, wl)) (-1) ⟨rfl, F⟩ (fun a => absurd a z0) (fun a => absurd a z1) (fun a => absurd a z2) (fun _ _ _ => rfl)
            by_cases a1 : v3 < 0
            · exact br_t a1 E
            · by_cases a2 : 2 < v3
              · exact br_f a1 (br_t a2 E)
              · exact br_f a1 (br_f a2 (br_f z0 (br_f z1 (br_f z2 True.intro))))
theorem i_vc_lastReceived {k : Nat} {u : SX} {v : SY} (I : i_Rel k u v) (hk : k + 5 ≤ 2564) (v1 : Int32) : wpX_lastReceived (fun r => wpY_lastReceived (fun r' => r' = r ∧ i_Rel (k + 5) u v) v v1) u v1 := by
  obtain ⟨T, P, N, Q, al, l, dc, ic, tx, dx, st, S, O, ar, lx, h, mi, mk, mp, wl, rc, ty, dy, qi, qk, qp, ly, rfl, rfl, hR⟩ := I
  obtain ⟨b1, b2, b3, b4, b5, b6⟩ := mr_Rb hR
  have F := mr_fin (kk := k + 5) (dc := dc) (ic := ic) (wl := wl) (rc := rc) hR rfl rfl rfl rfl
  unfold wpX_lastReceived
  have YN : (v1 < 0 ∨ 4 ≤ v1) → ∀ post : Int32 → Prop, post (-1) → wpY_lastReceived post (nI T, nI P, nI N, nI Q, nI al, ic, rc 0, rc 1, rc 2, rc 3, ty, dy, st, S, O, ar, qi, qk, qp, ly, wl) v1 := by
    intro hy post hq
    unfold wpY_lastReceived
    refine br_f (fun z => ?_) (br_f (fun z => ?_) (br_f (fun z => ?_) (br_f (fun z => ?_) hq)))
    · rw [z] at hy
      exact absurd hy (by decide)
    · rw [z] at hy
      exact absurd hy (by decide)
    · rw [z] at hy
      exact absurd hy (by decide)
    · rw [z] at hy
      exact absurd hy (by decide)
  by_cases a1 : v1 < 0
  · exact br_t a1 (YN (Or.inl a1) _ ⟨rfl, F⟩)
  · by_cases a2 : v1 < 4
    · refine br_f a1 (br_t a2 ?_)
      obtain ⟨j, hj, rfl⟩ := nI_of a1
      have j4 : j < 4 := (nI_ltI (b := 4) hj (by omega)).mp a2
      refine ⟨vp_in_nI j4 (by omega), ?_⟩
      rw [nI_clamp hj]
      unfold wpY_lastReceived
      rcases (show j = 0 ∨ j = 1 ∨ j = 2 ∨ j = 3 by omega) with rfl | rfl | rfl | rfl
      · exact br_t (by decide) ⟨rfl, F⟩
      · exact br_f (by decide) (br_t (by decide) ⟨rfl, F⟩)
      · exact br_f (by decide) (br_f (by decide) (br_t (by decide) ⟨rfl, F⟩))
      · exact br_f (by decide) (br_f (by decide) (br_f (by decide) (br_t (by decide) ⟨rfl, F⟩)))
    · exact br_f a1 (br_f a2 (YN (Or.inr (Int32.not_lt.mp a2)) _ ⟨rfl, F⟩))
