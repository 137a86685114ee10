/-! send -/
theorem mr_nd0 {d t : Int32} (h : mr_nd d t) : ¬ t = 0 ∧ ¬ t = 8 := by
  rcases h with ⟨_, a⟩ | ⟨_, a⟩ | ⟨_, a⟩
  · rcases a with rfl | rfl <;> decide
  · rcases a with rfl | rfl <;> decide
  · subst a
    decide
theorem mr_nd4 {d t : Int32} (h : mr_nd d t) (h4 : t = 4) : d = 5 := by
  subst h4
  rcases h with ⟨_, a⟩ | ⟨_, a⟩ | ⟨a, _⟩
  · exact absurd a (by decide)
  · exact absurd a (by decide)
  · exact a
theorem i_vc_send {k : Nat} {u : SX} {v : SY} (I : i_Rel k u v) (hk : k + 5 ≤ 2564) (v1 : Int32) (v2 : Int32) (v3 : Int32) (v4 : Int32) : wpX_send (fun r u' => wpY_send (fun r' v' => r' = r ∧ i_Rel (k + 5) u' v') v v1 v2 v3 v4) u v1 v2 v3 v4 := by
  obtain ⟨T, P, N, Q, al, l, dc, ic, tx, dx, st, S, O, ar, lx, h, mi, mk, mp, wl, rc, ty, dy, qi, qk, qp, ly, rfl, rfl, hR⟩ := I
  obtain ⟨b1, b2, b3, b4, b5, b6⟩ := mr_Rb hR
  have F := mr_fin (kk := k + 5) (dc := dc) (ic := ic) (wl := wl) (rc := rc) hR rfl rfl rfl rfl
  rcases mr_tk (T := T) v1 (by omega) with hy | ⟨t, ht, rfl⟩
  · exact xm_sendE (fun q hq => xm_srT hy hq) (by decide) (ym_sdT hy ⟨rfl, F⟩)
  rcases mr_nk (N := N) v2 b4 with hn | ⟨md, hm, rfl⟩
  · exact xm_sendE (fun q hq => xm_srN ht b1 hn hq) (by decide) (ym_sdN ht b1 hn ⟨rfl, F⟩)
  have hI := hR.2.2.2.2.2.2.2.2
  have nn := hR.2.1 t md (by omega) (by omega)
  have tk := mr_Ntok (c := t * 9 + (md + 1)) hI.1 (by omega)
  by_cases h6 : ty (t * 9 + (md + 1)) = 2 ∨ ty (t * 9 + (md + 1)) = 3 ∨ ty (t * 9 + (md + 1)) = 4
  · have X0 : ¬ tx (t * 8 + md) &&& 6 = 0 := by
      rw [nn.1]
      exact fun a => (mr_a6 tk).mp a h6
    obtain ⟨D, hD, hdD, hl⟩ := mr_Ns hI.1 (c := t * 9 + (md + 1)) (by omega) (by rcases h6 with a | a | a <;> rw [a] <;> decide) (by rcases h6 with a | a | a <;> rw [a] <;> decide)
    have xd := nn.2.trans hdD
    have D16 : D < 16 := by omega
    have DP : D < P := by omega
    have t4 : t < 4 := by omega
    have m8 : md < 8 := by omega
    have i36 : t * 9 + (md + 1) < 36 := by omega
    obtain ⟨e1, e2, e3, e4⟩ := mr_lxy hR (p := D) D16
    have gk := mr_gk hR (p := D) D16
    have oce : mr_oc mk (D * 9) (l D) = mr_oc qk (D * 9) (l D) := mr_occ (fun i hi => (gk i hi).2.1)
    have oo := hI.2.2.2.2.1 D D16
    have X127 : ∀ post : Int32 → Prop, (mr_oc qk (D * 9) (l D) < Q → post 0) → (Q ≤ mr_oc qk (D * 9) (l D) → post (-4)) → wX_sendRefusal_127 post (nI D) (nI T) (nI P) (nI N) (nI Q) dc (nI al) ic tx dx st S O ar lx h mi mk mp wl rc := fun post h0 h4 => xm_127 D16 e3 e1 (by rw [oce]; exact oo.2.1) b5 (fun a => h0 (by rw [← oce]; exact a)) (fun a => h4 (by rw [← oce]; exact a))
    -- the state behind the freeing of a send-once destination
    have R4 := mr_RO (v := O D - 1) (mr_Rf hR (t := t) m8) hl
    by_cases hy : v4 < 0 ∨ ¬ v4 ≤ 6
    · exact xm_sendE (fun q hq => xm_srD ht b1 hm b4 X0 hy hq) (by decide) (ym_sd0 ht b1 hm b4 h6 (ym_59D hy ⟨rfl, F⟩))
    rcases mr_d6 (y := v4) (fun a => hy (Or.inl a)) (Classical.byContradiction (fun a => hy (Or.inr a))) with rfl | hd
    · -- no right is carried
      have C : ∃ cty cp, (∀ q : Int32 → Prop, q cty → wpX_nameType q (nI T, nI P, nI N, nI Q, dc, nI al, ic, tx, dx, st, S, O, ar, lx, h, mi, mk, mp, wl, rc) (nI t) v3) ∧ (∀ q : Int32 → Prop, q cp → wpX_namePort q (nI T, nI P, nI N, nI Q, dc, nI al, ic, tx, dx, st, S, O, ar, lx, h, mi, mk, mp, wl, rc) (nI t) v3) := by
        rcases mr_nk (N := N) v3 b4 with hn | ⟨mc, hmc, rfl⟩
        · exact ⟨0, -1, fun q hq => xm_nt0 ht b1 hn hq, fun q hq => xm_np0 ht b1 hn hq⟩
        · exact ⟨_, _, fun q hq => xm_nt1 ht b1 hmc b4 hq, fun q hq => xm_np1 ht b1 hmc b4 hq⟩
      obtain ⟨cty, cp, hct, hcp⟩ := C
      have XR : ∀ post : Int32 → Prop, (mr_oc qk (D * 9) (l D) < Q → post 0) → (Q ≤ mr_oc qk (D * 9) (l D) → post (-4)) → wpX_sendRefusal post (nI T, nI P, nI N, nI Q, dc, nI al, ic, tx, dx, st, S, O, ar, lx, h, mi, mk, mp, wl, rc) (nI t) (nI (md + 1)) v3 0 := fun post h0 h4 => xm_sr0 ht b1 hm b4 X0 hct (xm_71 (fun a => absurd a (by decide)) (fun _ => xm_91n ht b1 hm b4 xd hcp (by decide) (X127 post h0 h4)))
      have YR : ∀ post : Int32 → SY → Prop, (Q ≤ mr_oc qk (D * 9) (l D) → post (-4) (nI T, nI P, nI N, nI Q, nI al, ic, rc 0, rc 1, rc 2, rc 3, ty, dy, st, S, O, ar, qi, qk, qp, ly, wl)) → (mr_oc qk (D * 9) (l D) < Q → ty (t * 9 + (md + 1)) = 4 → wY_send_288 post 0 (-1) 0 (nI D) (nI T) (nI P) (nI N) (nI Q) (nI al) ic (rc 0) (rc 1) (rc 2) (rc 3) (upd ty (t * 9 + (md + 1)) 0) (upd dy (t * 9 + (md + 1)) (-1)) st S (upd O D (O D - 1)) ar qi qk qp ly wl) → (mr_oc qk (D * 9) (l D) < Q → ¬ ty (t * 9 + (md + 1)) = 4 → wY_send_288 post 0 (-1) 0 (nI D) (nI T) (nI P) (nI N) (nI Q) (nI al) ic (rc 0) (rc 1) (rc 2) (rc 3) ty dy st S O ar qi qk qp ly wl) → wpY_send post (nI T, nI P, nI N, nI Q, nI al, ic, rc 0, rc 1, rc 2, rc 3, ty, dy, st, S, O, ar, qi, qk, qp, ly, wl) (nI t) (nI (md + 1)) v3 0 := fun post hf h4 h0 => ym_sd0 ht b1 hm b4 h6 (ym_590 (ym_188 (fun a => absurd a (by decide)) (fun _ => ym_208n i36 hdD DP b3 (by decide) (ym_254 DP b3 e3 e2 b5 i36 hl hf h4 h0))))
      by_cases hf : Q ≤ mr_oc qk (D * 9) (l D)
      · exact xm_sendE (fun q hq => XR q (fun a => absurd a (by omega)) (fun _ => hq)) (by decide) (YR _ (fun _ => ⟨rfl, F⟩) (fun a => absurd a (by omega)) (fun a => absurd a (by omega)))
      · have ho : mr_oc qk (D * 9) (l D) < Q := by omega
        by_cases z4 : ty (t * 9 + (md + 1)) = 4
        · obtain ⟨l8, R5⟩ := mr_Rap (i := ic + 1) (k := 0) (z := -1) R4 D16 (by omega) hl (Or.inl ⟨Or.inl rfl, rfl⟩) (by decide) ho
          refine xm_sendB t4 m8 (fun q hq => XR q (fun _ => hq) (fun a => absurd a hf)) (nn.1.trans z4) xd D16 hl (xm_580 (xm_94 D16 l8 e1 (Or.inl ⟨rfl, rfl⟩) ?_))
          exact YR _ (fun a => absurd a hf) (fun _ _ => ym_2880 (ym_447 DP b3 l8 e2 ⟨rfl, mr_fin R5 rfl rfl rfl rfl⟩)) (fun _ a => absurd z4 a)
        · obtain ⟨l8, R5⟩ := mr_Rap (i := ic + 1) (k := 0) (z := -1) hR D16 (by omega) hl (Or.inl ⟨Or.inl rfl, rfl⟩) (by decide) ho
          refine xm_sendA t4 m8 (fun q hq => XR q (fun _ => hq) (fun a => absurd a hf)) (by rw [nn.1]; exact z4) xd (xm_580 (xm_94 D16 l8 e1 (Or.inl ⟨rfl, rfl⟩) ?_))
          exact YR _ (fun a => absurd a hf) (fun _ a => absurd a z4) (fun _ _ => ym_2880 (ym_447 DP b3 l8 e2 ⟨rfl, mr_fin R5 rfl rfl rfl rfl⟩))
    · rcases mr_nk (N := N) v3 b4 with hn | ⟨mc, hmc, rfl⟩
      · have z0 : ¬ mr_nd v4 0 := fun a => (mr_nd0 a).1 rfl
        exact xm_sendE (fun q hq => xm_sr6 (cty := 0) ht b1 hm b4 X0 hd (Or.inl rfl) (fun q hq => xm_nt0 ht b1 hn hq) (fun _ => hq) (fun a => absurd a z0)) (by decide) (ym_sd0 ht b1 hm b4 h6 (ym_59N hd hn ⟨rfl, F⟩))
      have nc := hR.2.1 t mc t4 (by omega)
      have tc := mr_Ntok (c := t * 9 + (mc + 1)) hI.1 (by omega)
      have hct : ∀ q : Int32 → Prop, q (ty (t * 9 + (mc + 1))) → wpX_nameType q (nI T, nI P, nI N, nI Q, dc, nI al, ic, tx, dx, st, S, O, ar, lx, h, mi, mk, mp, wl, rc) (nI t) (nI (mc + 1)) := fun q hq => xm_nt1 ht b1 hmc b4 (by rw [nc.1]; exact hq)
      by_cases hnd : mr_nd v4 (ty (t * 9 + (mc + 1)))
      · obtain ⟨c, hc, hdc, hlc⟩ := mr_Ns hI.1 (c := t * 9 + (mc + 1)) (by omega) (mr_nd0 hnd).1 (mr_nd0 hnd).2
        have c16 : c < 16 := by omega
        have hcp : ∀ q : Int32 → Prop, q (nI c) → wpX_namePort q (nI T, nI P, nI N, nI Q, dc, nI al, ic, tx, dx, st, S, O, ar, lx, h, mi, mk, mp, wl, rc) (nI t) (nI (mc + 1)) := fun q hq => xm_np1 ht b1 hmc b4 (by rw [nc.2, hdc]; exact hq)
        obtain ⟨r, hrc⟩ := hI.2.2.2.2.2.2.2.2 D D16
        have XR : ∀ post : Int32 → Prop, ((v4 = 2 ∨ v4 = 5) ∧ nI (mc + 1) = nI (md + 1) → post (-3)) → (v4 = 1 → mr_on h c r D → post (-6)) → (¬ ((v4 = 2 ∨ v4 = 5) ∧ nI (mc + 1) = nI (md + 1)) → (v4 = 1 → ¬ mr_on h c r D) → Q ≤ mr_oc qk (D * 9) (l D) → post (-4)) → (¬ ((v4 = 2 ∨ v4 = 5) ∧ nI (mc + 1) = nI (md + 1)) → (v4 = 1 → ¬ mr_on h c r D) → mr_oc qk (D * 9) (l D) < Q → post 0) → wpX_sendRefusal post (nI T, nI P, nI N, nI Q, dc, nI al, ic, tx, dx, st, S, O, ar, lx, h, mi, mk, mp, wl, rc) (nI t) (nI (md + 1)) (nI (mc + 1)) v4 := by
          intro post p3 p6 p4 p0
          refine xm_sr6 ht b1 hm b4 X0 hd tc hct (fun a => absurd hnd a) (fun _ => xm_71 (fun a b => p3 ⟨a, b⟩) (fun ns => ?_))
          by_cases d1 : v4 = 1
          · subst d1
            exact xm_91c ht b1 hm b4 xd hcp c16 hrc (p6 rfl) (fun on => X127 post (p0 ns (fun _ => on)) (p4 ns (fun _ => on)))
          · exact xm_91n ht b1 hm b4 xd hcp d1 (X127 post (p0 ns (fun a => absurd a d1)) (p4 ns (fun a => absurd a d1)))
        have YR : ∀ post : Int32 → SY → Prop, ((v4 = 2 ∨ v4 = 5) ∧ nI (mc + 1) = nI (md + 1) → post (-3) (nI T, nI P, nI N, nI Q, nI al, ic, rc 0, rc 1, rc 2, rc 3, ty, dy, st, S, O, ar, qi, qk, qp, ly, wl)) → (v4 = 1 → mr_on h c r D → post (-6) (nI T, nI P, nI N, nI Q, nI al, ic, rc 0, rc 1, rc 2, rc 3, ty, dy, st, S, O, ar, qi, qk, qp, ly, wl)) → (¬ ((v4 = 2 ∨ v4 = 5) ∧ nI (mc + 1) = nI (md + 1)) → (v4 = 1 → ¬ mr_on h c r D) → Q ≤ mr_oc qk (D * 9) (l D) → post (-4) (nI T, nI P, nI N, nI Q, nI al, ic, rc 0, rc 1, rc 2, rc 3, ty, dy, st, S, O, ar, qi, qk, qp, ly, wl)) → (¬ ((v4 = 2 ∨ v4 = 5) ∧ nI (mc + 1) = nI (md + 1)) → (v4 = 1 → ¬ mr_on h c r D) → mr_oc qk (D * 9) (l D) < Q → ty (t * 9 + (md + 1)) = 4 → wY_send_288 post v4 (nI c) (nI (t * 9 + (mc + 1))) (nI D) (nI T) (nI P) (nI N) (nI Q) (nI al) ic (rc 0) (rc 1) (rc 2) (rc 3) (upd ty (t * 9 + (md + 1)) 0) (upd dy (t * 9 + (md + 1)) (-1)) st S (upd O D (O D - 1)) ar qi qk qp ly wl) → (¬ ((v4 = 2 ∨ v4 = 5) ∧ nI (mc + 1) = nI (md + 1)) → (v4 = 1 → ¬ mr_on h c r D) → mr_oc qk (D * 9) (l D) < Q → ¬ ty (t * 9 + (md + 1)) = 4 → wY_send_288 post v4 (nI c) (nI (t * 9 + (mc + 1))) (nI D) (nI T) (nI P) (nI N) (nI Q) (nI al) ic (rc 0) (rc 1) (rc 2) (rc 3) ty dy st S O ar qi qk qp ly wl) → wpY_send post (nI T, nI P, nI N, nI Q, nI al, ic, rc 0, rc 1, rc 2, rc 3, ty, dy, st, S, O, ar, qi, qk, qp, ly, wl) (nI t) (nI (md + 1)) (nI (mc + 1)) v4 := by
          intro post p3 p6 p4 pf p0
          refine ym_sd0 ht b1 hm b4 h6 (ym_596 t4 hmc b4 hd tc (fun a => absurd hnd a) (fun _ => ?_))
          rw [hdc]
          refine ym_188 (fun a b => p3 ⟨a, b⟩) (fun ns => ?_)
          by_cases d1 : v4 = 1
          · subst d1
            exact ym_208c i36 hdD DP b3 b6 b5 hI hR.2.2.2.1 c16 hrc (p6 rfl) (fun on => ym_254 DP b3 e3 e2 b5 i36 hl (p4 ns (fun _ => on)) (pf ns (fun _ => on)) (p0 ns (fun _ => on)))
          · exact ym_208n i36 hdD DP b3 d1 (ym_254 DP b3 e3 e2 b5 i36 hl (p4 ns (fun a => absurd a d1)) (pf ns (fun a => absurd a d1)) (p0 ns (fun a => absurd a d1)))
        by_cases ns : (v4 = 2 ∨ v4 = 5) ∧ nI (mc + 1) = nI (md + 1)
        · have n1 : ¬ v4 = 1 := by
            rcases ns.1 with a | a <;> rw [a] <;> decide
          exact xm_sendE (fun q hq => XR q (fun _ => hq) (fun a => absurd a n1) (fun a => absurd ns a) (fun a => absurd ns a)) (by decide) (YR _ (fun _ => ⟨rfl, F⟩) (fun a => absurd a n1) (fun a => absurd ns a) (fun a => absurd ns a) (fun a => absurd ns a))
        by_cases cy : v4 = 1 ∧ mr_on h c r D
        · exact xm_sendE (fun q hq => XR q (fun a => absurd a ns) (fun _ _ => hq) (fun _ a => absurd cy.2 (a cy.1)) (fun _ a => absurd cy.2 (a cy.1))) (by decide) (YR _ (fun a => absurd a ns) (fun _ _ => ⟨rfl, F⟩) (fun _ a => absurd cy.2 (a cy.1)) (fun _ a => absurd cy.2 (a cy.1)) (fun _ a => absurd cy.2 (a cy.1)))
        have on : v4 = 1 → ¬ mr_on h c r D := fun a b => cy ⟨a, b⟩
        by_cases hf : Q ≤ mr_oc qk (D * 9) (l D)
        · exact xm_sendE (fun q hq => XR q (fun a => absurd a ns) (fun a b => absurd b (on a)) (fun _ _ _ => hq) (fun _ _ a => absurd a (by omega))) (by decide) (YR _ (fun a => absurd a ns) (fun a b => absurd b (on a)) (fun _ _ _ => ⟨rfl, F⟩) (fun _ _ a => absurd a (by omega)) (fun _ _ a => absurd a (by omega)))
        have ho : mr_oc qk (D * 9) (l D) < Q := by omega
        have XS : ∀ q : Int32 → Prop, q 0 → wpX_sendRefusal q (nI T, nI P, nI N, nI Q, dc, nI al, ic, tx, dx, st, S, O, ar, lx, h, mi, mk, mp, wl, rc) (nI t) (nI (md + 1)) (nI (mc + 1)) v4 := fun q hq => XR q (fun a => absurd a ns) (fun a b => absurd b (on a)) (fun _ _ a => absurd a hf) (fun _ _ _ => hq)
        by_cases z4 : ty (t * 9 + (md + 1)) = 4
        · have ne : t * 9 + (mc + 1) ≠ t * 9 + (md + 1) := by
            intro a
            have d5 := mr_nd4 hnd (by rw [a]; exact z4)
            have em : mc = md := by omega
            exact ns ⟨Or.inr d5, by rw [em]⟩
          obtain ⟨tx', dx', ty', dy', st', S', O', h', l', lx', mi', mk', mp', qi', qk', qp', ly', R5, dX, dY⟩ := mr_snd R4 ht hmc (d := v4) (by rw [pk_un ne]; exact hnd) (by rw [pk_un ne]; exact hdc) hc hD hl ho (fun a => ⟨r, hrc, on a⟩) ic
          refine xm_sendB t4 m8 XS (nn.1.trans z4) xd D16 hl (dX dc wl rc _ ?_)
          exact YR _ (fun a => absurd a ns) (fun a b => absurd b (on a)) (fun _ _ a => absurd a hf) (fun _ _ _ _ => dY _ _ _ _ wl _ ⟨rfl, mr_fin R5 rfl rfl rfl rfl⟩) (fun _ _ _ a => absurd z4 a)
        · obtain ⟨tx', dx', ty', dy', st', S', O', h', l', lx', mi', mk', mp', qi', qk', qp', ly', R5, dX, dY⟩ := mr_snd hR ht hmc (d := v4) hnd hdc hc hD hl ho (fun a => ⟨r, hrc, on a⟩) ic
          refine xm_sendA t4 m8 XS (by rw [nn.1]; exact z4) xd (dX dc wl rc _ ?_)
          exact YR _ (fun a => absurd a ns) (fun a b => absurd b (on a)) (fun _ _ a => absurd a hf) (fun _ _ _ a => absurd a z4) (fun _ _ _ _ => dY _ _ _ _ wl _ ⟨rfl, mr_fin R5 rfl rfl rfl rfl⟩)
      · exact xm_sendE (fun q hq => xm_sr6 ht b1 hm b4 X0 hd tc hct (fun _ => hq) (fun a => absurd a hnd)) (by decide) (ym_sd0 ht b1 hm b4 h6 (ym_596 t4 hmc b4 hd tc (fun _ => ⟨rfl, F⟩) (fun a => absurd a hnd)))
  · exact xm_sendE (fun q hq => xm_srF ht b1 hm b4 (by rw [nn.1]; exact (mr_a6 tk).mpr h6) hq) (by decide) (ym_sdF ht b1 hm b4 h6 ⟨rfl, F⟩)
