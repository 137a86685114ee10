/-! receive -/
section
variable {W W' : Nat → Prop} {e off T P N Q al p n t m x c D : Nat} {l : Nat → Nat} {dc ic r0 r1 r2 r3 : Int32} {tx dx st S O ar lx h mi mk mp wl rc ty dy qi qk qp ly : Nat → Int32} {v w i k z : Int32}
theorem mr_lf8 {pr : Nat → Prop} {r : Nat} (hr : mr_lst pr N r) : r ≤ N := by
  rcases hr with a | a
  · omega
  · omega
theorem mr_tgt {s1 s2 : Nat} {pr pr' : Nat → Prop} (q1 : mr_lst pr N s1) (q2 : mr_lst pr' N s2) (z : ¬ (if s1 = 0 then s2 else s1) = 0) : ∃ m2, m2 < N ∧ (if s1 = 0 then s2 else s1) = m2 + 1 := by
  have k1 := mr_lf8 q1
  have k2 := mr_lf8 q2
  by_cases z1 : s1 = 0
  · rw [if_pos z1] at z ⊢
    exact ⟨s2 - 1, by omega, by omega⟩
  · rw [if_neg z1] at z ⊢
    exact ⟨s1 - 1, by omega, by omega⟩
/-- a port in transit has no name with its receive right -/
theorem mr_rsfs {s1 : Nat} (hal : al ≤ 16) (hN : mr_N T N al st ty dy) (ht : t < 4) (h8 : N ≤ 8) (hx : x < 16) (hs : st x = 2) (q1 : mr_lst (mr_rs ty dy t x) N s1) : mr_lst (mr_fs ty dy t x) N s1 := by
  refine mr_lstC q1 (fun n a b => ⟨fun q => ⟨q.1.resolve_left (fun r => ?_), q.2⟩, fun q => ⟨Or.inr q.1, q.2⟩⟩)
  obtain ⟨p, hp, hd, h1⟩ := mr_Nr hN (c := t * 9 + n) (by omega) (Or.inl r)
  have ee : p = x := mr_inj (hd.symm.trans q.2) (by omega) (by omega)
  rw [ee, hs] at h1
  exact absurd h1 (by decide)
end
theorem i_vc_receive {k : Nat} {u : SX} {v : SY} (I : i_Rel k u v) (hk : k + 5 ≤ 2564) (v1 : Int32) (v2 : Int32) : wpX_receive (fun r u' => wpY_receive (fun r' v' => r' = r ∧ i_Rel (k + 5) u' v') v v1 v2) u v1 v2 := by
  obtain ⟨T, P, N, Q, al, l, dc, ic, tx, dx, st, S, O, ar, lx, h, mi, mk, mp, wl, rc, ty, dy, qi, qk, qp, ly, rfl, rfl, hR⟩ := I
  obtain ⟨b1, b2, b3, b4, b5, b6⟩ := mr_Rb hR
  have F := mr_fin (kk := k + 5) (dc := dc) (ic := ic) (wl := wl) (rc := rc) hR rfl rfl rfl rfl
  rcases mr_tk (T := T) v1 (by omega) with hy | ⟨t, ht, rfl⟩
  · exact xm_receiveT hy (ym_receiveT hy ⟨rfl, F⟩)
  rcases mr_nk (N := N) v2 b4 with hn | ⟨m, hm, rfl⟩
  · exact xm_receiveN ht b1 hn (ym_receiveN ht b1 hn ⟨rfl, F⟩)
  have hI := hR.2.2.2.2.2.2.2.2
  have nn := hR.2.1 t m (by omega) (by omega)
  have tk := mr_Ntok (c := t * 9 + (m + 1)) hI.1 (by omega)
  by_cases hr : ty (t * 9 + (m + 1)) &&& 1 = 0
  · exact xm_receiveF ht b1 hm b4 (by rw [nn.1]; exact hr) (ym_receiveF ht b1 hm b4 hr ⟨rfl, F⟩)
  have hr' : ty (t * 9 + (m + 1)) = 1 ∨ ty (t * 9 + (m + 1)) = 3 := Classical.byContradiction (fun a => hr ((mr_a1 tk).mpr a))
  obtain ⟨p, hp, hd, hs⟩ := mr_Nr hI.1 (by omega) hr'
  have hl : mr_lv st p := Or.inl hs
  have X0 : ¬ tx (t * 8 + m) &&& 1 = 0 := by rw [nn.1]; exact hr
  have xd := nn.2.trans hd
  obtain ⟨e1, e2, e3, e4⟩ := mr_lxy hR (p := p) (by omega)
  by_cases l0 : l p = 0
  · exact xm_rcE ht b1 hm b4 X0 xd (by omega) (by rw [e1, l0]; exact nI_0) (ym_rcE ht b1 hm b4 hr hd (by omega) b3 (by rw [e2, l0]; exact nI_0) ⟨rfl, F⟩)
  obtain ⟨n, hn⟩ : ∃ n, l p = n + 1 := ⟨l p - 1, by omega⟩
  have n8 : n ≤ 8 := by omega
  rw [hn] at e1 e2
  have g0 : mi (p * 9) = qi (p * 9) ∧ mk (p * 9) = qk (p * 9) ∧ mp (p * 9) = qp (p * 9) := mr_gk hR (p := p) (by omega) 0 (by omega)
  obtain ⟨g1, g2, g3⟩ := g0
  have R1 := mr_Rrem hR (p := p) (by omega) hl hn mr_Shf mr_Shf mr_Shf mr_Shf mr_Shf mr_Shf
  have M0 : mr_mok al (fun _ => False) st h p (qk (p * 9)) (qp (p * 9)) := hI.2.2.2.2.2.1 p 0 (by omega) (by omega)
  have hk36 : ∀ c, c < 36 → mr_tok (ty c) := fun c hc => mr_Ntok hI.1 hc
  obtain ⟨s2, q2⟩ := mr_lstE (fun n => ty (t * 9 + n) = 0) N
  have R2 : ¬ qk (p * 9) = 3 → mr_R (fun _ => False) 16 0 T P N Q al (mr_ul l p n) tx dx st S O ar (upd lx p (nI n)) h (mr_shf p n mi) (mr_shf p n mk) (mr_shf p n mp) ty dy (mr_shf p n qi) (mr_shf p n qk) (mr_shf p n qp) (upd ly p (nI n)) := fun a => mr_RW R1 (fun y _ => ⟨fun q => q.elim (fun b => b) (fun b => absurd b.1 a), fun q => Or.inl q⟩)
  rcases M0 with ⟨hk0, hz⟩ | ⟨x, hx, hz, kk⟩
  · have r := R2 (by rcases hk0 with a | a <;> rw [a] <;> decide)
    exact xm_rcA (kr := qk (p * 9)) ht b1 hm b4 X0 xd (by omega) n8 e1 (fun q hq => by rw [g2]; exact xm_kr0 hk0 hq) (fun q hq => xm_cr0 (hk0.elim Or.inl (fun a => Or.inr (Or.inl a))) hq) (ym_rcP (nn := 0) ht b1 hm b4 hr hd (by omega) b3 n8 e2 (fun q hq => ym_nn0 hk0 hq) q2 (fun _ => ym_129a (by omega) b3 n8 e2 hk0 ⟨g1.symm, mr_fin r g1 rfl rfl (g3.trans hz)⟩) (fun a => absurd rfl a) (fun a => absurd rfl a))
  · have x16 : x < 16 := by omega
    by_cases lx0 : mr_lv st x
    · rcases kk with k1 | k1 | ⟨k1, k2, k3, _⟩
      · -- a send right for a live port
        have r := R2 (by rw [k1]; decide)
        obtain ⟨s1, q1⟩ := mr_lstE (mr_rs ty dy t x) N
        have cn : ∀ q : Int32 → Prop, q (nI (if s1 = 0 then s2 else s1)) → wpX_copyoutName q (nI T, nI P, nI N, nI Q, dc, nI al, ic, tx, dx, st, S, O, ar, lx, h, mi, mk, mp, wl, rc) (nI t) 1 (mp (p * 9)) := fun q hq => by
          rw [g3, hz]
          exact xm_con (by omega) b4 hR.2.1 hk36 q1 q2 (by decide) hq
        have kr : ∀ q : Int32 → Prop, q 1 → wpX_kindReceived q (nI T, nI P, nI N, nI Q, dc, nI al, ic, tx, dx, st, S, O, ar, lx, h, mi, mk, mp, wl, rc) (mk (p * 9)) (mp (p * 9)) := fun q hq => by
          rw [g2, g3, hz, k1]
          exact xm_krl x16 lx0 (Or.inl rfl) hq
        have yn : ∀ q : Int32 → Prop, q (if s1 = 0 then 1 else 0) → wpY_needsNew q (nI T, nI P, nI N, nI Q, nI al, ic, rc 0, rc 1, rc 2, rc 3, ty, dy, st, S, O, ar, qi, qk, qp, ly, wl) (nI t) (qk (p * 9)) (qp (p * 9)) := fun q hq => by
          rw [hz, k1]
          exact ym_nn1 (by omega) b4 (by omega) b3 lx0 q1 hq
        by_cases z : (if s1 = 0 then s2 else s1) = 0
        · have z1 : s1 = 0 := by
            by_cases a : s1 = 0
            · exact a
            · rw [if_neg a] at z
              exact z
          have z2 : s2 = 0 := by
            rw [if_pos z1] at z
            exact z
          rw [if_pos z1] at yn
          refine xm_rcF ht b1 hm b4 X0 xd (by omega) n8 e1 kr (fun q hq => xm_cr1 (Or.inl rfl) hq) (fun q hq => cn q (by rw [z]; exact hq)) ?_
          exact ym_rcP ht b1 hm b4 hr hd (by omega) b3 n8 e2 yn q2 (fun a => absurd a mr_10) (fun _ _ => ⟨rfl, F⟩) (fun _ a => absurd z2 a)
        · obtain ⟨m2, hm2, e5⟩ := mr_tgt q1 q2 z
          obtain ⟨tx', dx', ty', dy', S', ar', ic', l', lx', mi', mk', mp', qi', qk', qp', ly', r', dX, dY⟩ := mr_cp1 r (fun q => absurd q (by omega)) ht hx lx0 q1 q2 e5 ic
          have fin : wY_receive_129 (fun r' v' => r' = mi (p * 9) ∧ i_Rel (k + 5) (nI T, nI P, nI N, nI Q, dc, nI al, ic', tx', dx', st, S', O, ar', lx', h, mi', mk', mp', wl, upd (upd (upd (upd rc 0 (mi (p * 9))) 1 1) 2 (nI (m2 + 1))) 3 (mp (p * 9))) v') (nI t) (nI p) (qi (p * 9)) (qk (p * 9)) (qp (p * 9)) (nI T) (nI P) (nI N) (nI Q) (nI al) ic (rc 0) (rc 1) (rc 2) (rc 3) ty dy st S O ar qi qk qp ly wl := by
            rw [hz, k1]
            exact ym_129s (by omega) b3 n8 e2 (Or.inl rfl) (by omega) lx0 (dY _ _ _ _ wl) ⟨g1.symm, mr_fin r' g1 rfl rfl (g3.trans hz)⟩
          refine xm_rcC ht b1 hm b4 X0 xd (by omega) n8 e1 kr (fun q hq => xm_cr1 (Or.inl rfl) hq) hm2 (fun q hq => cn q (by rw [e5]; exact hq)) (fun q hq => by rw [g3, hz]; exact dX dc wl rc q hq) ?_
          refine ym_rcP ht b1 hm b4 hr hd (by omega) b3 n8 e2 yn q2 (fun _ => fin) (fun a b => ?_) (fun _ _ => fin)
          exfalso
          by_cases c : s1 = 0
          · rw [if_pos c] at z
            exact z b
          · rw [if_neg c] at a
            exact a rfl
      · -- a send-once right for a live port
        have r := R2 (by rw [k1]; decide)
        have cn : ∀ q : Int32 → Prop, q (nI s2) → wpX_copyoutName q (nI T, nI P, nI N, nI Q, dc, nI al, ic, tx, dx, st, S, O, ar, lx, h, mi, mk, mp, wl, rc) (nI t) 2 (mp (p * 9)) := fun q hq => xm_cso (by omega) b4 hR.2.1 q2 hq
        have kr : ∀ q : Int32 → Prop, q 2 → wpX_kindReceived q (nI T, nI P, nI N, nI Q, dc, nI al, ic, tx, dx, st, S, O, ar, lx, h, mi, mk, mp, wl, rc) (mk (p * 9)) (mp (p * 9)) := fun q hq => by
          rw [g2, g3, hz, k1]
          exact xm_krl x16 lx0 (Or.inr (Or.inl rfl)) hq
        have yn : ∀ q : Int32 → Prop, q 1 → wpY_needsNew q (nI T, nI P, nI N, nI Q, nI al, ic, rc 0, rc 1, rc 2, rc 3, ty, dy, st, S, O, ar, qi, qk, qp, ly, wl) (nI t) (qk (p * 9)) (qp (p * 9)) := fun q hq => by
          rw [hz, k1]
          exact ym_nn2 (by omega) b3 lx0 hq
        rcases mr_lstL q2 with z | ⟨m2, hm2, e5, hz2⟩
        · refine xm_rcF ht b1 hm b4 X0 xd (by omega) n8 e1 kr (fun q hq => xm_cr1 (Or.inr (Or.inl rfl)) hq) (fun q hq => cn q (by rw [z]; exact hq)) ?_
          exact ym_rcP ht b1 hm b4 hr hd (by omega) b3 n8 e2 yn q2 (fun a => absurd a mr_10) (fun _ _ => ⟨rfl, F⟩) (fun _ a => absurd z a)
        · rw [e5] at q2 cn
          have r' := mr_Rso r hx lx0 ht hm2
          have fin : wY_receive_129 (fun r' v' => r' = mi (p * 9) ∧ i_Rel (k + 5) (nI T, nI P, nI N, nI Q, dc, nI al, ic, upd tx (t * 8 + m2) 4, upd dx (t * 8 + m2) (nI x), st, S, O, ar, upd lx p (nI n), h, mr_shf p n mi, mr_shf p n mk, mr_shf p n mp, wl, upd (upd (upd (upd rc 0 (mi (p * 9))) 1 2) 2 (nI (m2 + 1))) 3 (mp (p * 9))) v') (nI t) (nI p) (qi (p * 9)) (qk (p * 9)) (qp (p * 9)) (nI T) (nI P) (nI N) (nI Q) (nI al) ic (rc 0) (rc 1) (rc 2) (rc 3) ty dy st S O ar qi qk qp ly wl := by
            rw [hz, k1]
            exact ym_129s (by omega) b3 n8 e2 (Or.inr rfl) (by omega) lx0 (fun q hq => ym_co2 (by omega) hm2 b4 (by omega) b3 lx0 q2 hq) ⟨g1.symm, mr_fin r' g1 rfl rfl (g3.trans hz)⟩
          refine xm_rcC ht b1 hm b4 X0 xd (by omega) n8 e1 kr (fun q hq => xm_cr1 (Or.inr (Or.inl rfl)) hq) hm2 cn (fun q hq => by rw [g3, hz]; exact xm_co2 (by omega) (by omega) hq) ?_
          exact ym_rcP ht b1 hm b4 hr hd (by omega) b3 n8 e2 yn q2 (fun a => absurd a mr_10) (fun _ a => absurd a (by omega)) (fun _ _ => fin)
      · -- the receive right
        have r := mr_RW (W' := fun y => y = x) R1 (fun y hy => ⟨fun q => q.elim (fun b => absurd b (fun c => c)) (fun b => (mr_inj (hz.symm.trans b.2) (by omega) (by omega)).symm), fun q => Or.inr ⟨k1, by rw [q]; exact hz⟩⟩)
        obtain ⟨s1, q1⟩ := mr_lstE (mr_rs ty dy t x) N
        have q1' := mr_rsfs (by omega) hI.1 (by omega) b4 x16 k2 q1
        have cn : ∀ q : Int32 → Prop, q (nI (if s1 = 0 then s2 else s1)) → wpX_copyoutName q (nI T, nI P, nI N, nI Q, dc, nI al, ic, tx, dx, st, S, O, ar, lx, h, mi, mk, mp, wl, rc) (nI t) 3 (mp (p * 9)) := fun q hq => by
          rw [g3, hz]
          exact xm_con (by omega) b4 hR.2.1 hk36 q1 q2 (by decide) hq
        have kr : ∀ q : Int32 → Prop, q 3 → wpX_kindReceived q (nI T, nI P, nI N, nI Q, dc, nI al, ic, tx, dx, st, S, O, ar, lx, h, mi, mk, mp, wl, rc) (mk (p * 9)) (mp (p * 9)) := fun q hq => by
          rw [g2, g3, hz, k1]
          exact xm_krl x16 lx0 (Or.inr (Or.inr rfl)) hq
        have yn : ∀ q : Int32 → Prop, q (if s1 = 0 then 1 else 0) → wpY_needsNew q (nI T, nI P, nI N, nI Q, nI al, ic, rc 0, rc 1, rc 2, rc 3, ty, dy, st, S, O, ar, qi, qk, qp, ly, wl) (nI t) (qk (p * 9)) (qp (p * 9)) := fun q hq => by
          rw [hz, k1]
          exact ym_nn3 (by omega) b4 hk36 q1' hq
        by_cases z : (if s1 = 0 then s2 else s1) = 0
        · have z1 : s1 = 0 := by
            by_cases a : s1 = 0
            · exact a
            · rw [if_neg a] at z
              exact z
          have z2 : s2 = 0 := by
            rw [if_pos z1] at z
            exact z
          rw [if_pos z1] at yn
          refine xm_rcF ht b1 hm b4 X0 xd (by omega) n8 e1 kr (fun q hq => xm_cr1 (Or.inr (Or.inr rfl)) hq) (fun q hq => cn q (by rw [z]; exact hq)) ?_
          exact ym_rcP ht b1 hm b4 hr hd (by omega) b3 n8 e2 yn q2 (fun a => absurd a mr_10) (fun _ _ => ⟨rfl, F⟩) (fun _ a => absurd z2 a)
        · by_cases z1 : s1 = 0
          · rw [if_pos z1] at z cn yn
            rw [z1] at q1'
            rcases mr_lstL q2 with z0 | ⟨m2, hm2, e5, hz2⟩
            · exact absurd z0 z
            · rw [e5] at q2 cn
              have nn2 := hR.2.1 t m2 (by omega) (by omega)
              have x0 := nn2.1.trans hz2
              have r' := mr_Rrcv (v := 1) r (fun y _ => Iff.rfl) hx k2 ht hm2 (Or.inl rfl)
              have fin : wY_receive_129 (fun r' v' => r' = mi (p * 9) ∧ i_Rel (k + 5) (nI T, nI P, nI N, nI Q, dc, nI al, ic, upd tx (t * 8 + m2) 1, upd dx (t * 8 + m2) (nI x), upd st x 1, S, O, ar, upd lx p (nI n), h, mr_shf p n mi, mr_shf p n mk, mr_shf p n mp, wl, upd (upd (upd (upd rc 0 (mi (p * 9))) 1 3) 2 (nI (m2 + 1))) 3 (mp (p * 9))) v') (nI t) (nI p) (qi (p * 9)) (qk (p * 9)) (qp (p * 9)) (nI T) (nI P) (nI N) (nI Q) (nI al) ic (rc 0) (rc 1) (rc 2) (rc 3) ty dy st S O ar qi qk qp ly wl := by
                rw [hz, k1]
                exact ym_129r (by omega) b3 n8 e2 (fun q hq => ym_co3b (by omega) hm2 b4 (by omega) b3 hk36 q1' q2 hq) ⟨g1.symm, mr_fin r' g1 rfl rfl (g3.trans hz)⟩
              refine xm_rcC ht b1 hm b4 X0 xd (by omega) n8 e1 kr (fun q hq => xm_cr1 (Or.inr (Or.inr rfl)) hq) hm2 cn (fun q hq => by rw [g3, hz]; exact xm_co3 (v := 1) (by omega) (by omega) x16 (by rw [x0]; decide) hq) ?_
              exact ym_rcP ht b1 hm b4 hr hd (by omega) b3 n8 e2 yn q2 (fun a => absurd a mr_10) (fun _ a => absurd a (by omega)) (fun _ _ => fin)
          · rw [if_neg z1] at z cn yn
            rcases mr_lstL q1' with z0 | ⟨m2, hm2, e5, hz2⟩
            · exact absurd z0 z
            · rw [e5] at q1' cn
              have nn2 := hR.2.1 t m2 (by omega) (by omega)
              have y2 : ty (t * 9 + (m2 + 1)) = 2 := by
                rcases hz2.1 with a | a
                · exact a
                · obtain ⟨p', hp', hd', hs'⟩ := mr_Nr hI.1 (c := t * 9 + (m2 + 1)) (by omega) (Or.inr a)
                  have ee : p' = x := mr_inj (hd'.symm.trans hz2.2) (by omega) (by omega)
                  rw [ee, k2] at hs'
                  exact absurd hs' (by decide)
              have x2 := nn2.1.trans y2
              have r' := mr_Rrcv (v := 3) r (fun y _ => Iff.rfl) hx k2 ht hm2 (Or.inr rfl)
              have fin : wY_receive_129 (fun r' v' => r' = mi (p * 9) ∧ i_Rel (k + 5) (nI T, nI P, nI N, nI Q, dc, nI al, ic, upd tx (t * 8 + m2) 3, upd dx (t * 8 + m2) (nI x), upd st x 1, S, O, ar, upd lx p (nI n), h, mr_shf p n mi, mr_shf p n mk, mr_shf p n mp, wl, upd (upd (upd (upd rc 0 (mi (p * 9))) 1 3) 2 (nI (m2 + 1))) 3 (mp (p * 9))) v') (nI t) (nI p) (qi (p * 9)) (qk (p * 9)) (qp (p * 9)) (nI T) (nI P) (nI N) (nI Q) (nI al) ic (rc 0) (rc 1) (rc 2) (rc 3) ty dy st S O ar qi qk qp ly wl := by
                rw [hz, k1]
                exact ym_129r (by omega) b3 n8 e2 (fun q hq => ym_co3a (by omega) hm2 b4 (by omega) b3 hk36 q1' hz2.2 hq) ⟨g1.symm, mr_fin r' g1 rfl rfl (g3.trans hz)⟩
              refine xm_rcC ht b1 hm b4 X0 xd (by omega) n8 e1 kr (fun q hq => xm_cr1 (Or.inr (Or.inr rfl)) hq) hm2 cn (fun q hq => by rw [g3, hz]; exact xm_co3 (v := 3) (by omega) (by omega) x16 (by rw [x2]; decide) hq) ?_
              exact ym_rcP ht b1 hm b4 hr hd (by omega) b3 n8 e2 yn q2 (fun _ => fin) (fun a => absurd rfl a) (fun a => absurd rfl a)
    · have kk' : qk (p * 9) = 1 ∨ qk (p * 9) = 2 := by
        rcases kk with a | a | a
        · exact Or.inl a
        · exact Or.inr a
        · exact absurd (Or.inr a.2.1) lx0
      have r := R2 (by rcases kk' with a | a <;> rw [a] <;> decide)
      have fin : wY_receive_129 (fun r' v' => r' = mi (p * 9) ∧ i_Rel (k + 5) (nI T, nI P, nI N, nI Q, dc, nI al, ic, tx, dx, st, S, O, ar, upd lx p (nI n), h, mr_shf p n mi, mr_shf p n mk, mr_shf p n mp, wl, upd (upd (upd (upd rc 0 (mi (p * 9))) 1 5) 2 0) 3 (mp (p * 9))) v') (nI t) (nI p) (qi (p * 9)) (qk (p * 9)) (qp (p * 9)) (nI T) (nI P) (nI N) (nI Q) (nI al) ic (rc 0) (rc 1) (rc 2) (rc 3) ty dy st S O ar qi qk qp ly wl := by
        rw [hz]
        exact ym_129d (by omega) b3 n8 e2 kk' x16 lx0 ⟨g1.symm, mr_fin r g1 rfl rfl (g3.trans hz)⟩
      exact xm_rcA (kr := 5) ht b1 hm b4 X0 xd (by omega) n8 e1 (fun q hq => by rw [g2, g3, hz]; exact xm_krd x16 lx0 (kk'.elim Or.inl (fun a => Or.inr (Or.inl a))) hq) (fun q hq => xm_cr0 (Or.inr (Or.inr rfl)) hq) (ym_rcP (nn := 0) ht b1 hm b4 hr hd (by omega) b3 n8 e2 (fun q hq => by rw [hz]; exact ym_nnd x16 b3 lx0 kk' hq) q2 (fun _ => fin) (fun a => absurd rfl a) (fun a => absurd rfl a))
