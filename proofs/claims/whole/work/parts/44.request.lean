/-! requestNoSenders -/
section
variable {W W' : Nat → Prop} {e off T P N Q al p n t m x c D : Nat} {l : Nat → Nat} {dc ic r0 r1 r2 r3 : Int32} {tx dx st S O ar lx h mi mk mp wl rc ty dy qi qk qp ly : Nat → Int32} {v w i k z : Int32}
theorem xm_rq {post : Int32 → SX → Prop} (ht : t < T) (hT : T ≤ 4) (hm : m < N) (hN : N ≤ 8) (h0 : ¬ tx (t * 8 + m) &&& 1 = 0) (hd : dx (t * 8 + m) = nI p) (h16 : p < 16) (h9 : n ≤ 9) (hl : lx p = nI n) (hA : ¬ ar p = 0 → post (-7) (nI T, nI P, nI N, nI Q, dc, nI al, ic, tx, dx, st, S, O, ar, lx, h, mi, mk, mp, wl, rc)) (hH : ar p = 0 → (∃ i, i < n ∧ mk (p * 9 + i) = 4) → post (-7) (nI T, nI P, nI N, nI Q, dc, nI al, ic, tx, dx, st, S, O, ar, lx, h, mi, mk, mp, wl, rc)) (hS : ar p = 0 → (∀ i, i < n → ¬ mk (p * 9 + i) = 4) → S p = 0 → n ≤ 8 ∧ post (ic + 1) (nI T, nI P, nI N, nI Q, dc, nI al, ic + 1, tx, dx, st, S, O, ar, upd lx p (nI (n + 1)), h, upd mi (p * 9 + n) (ic + 1), upd mk (p * 9 + n) 4, upd mp (p * 9 + n) (-1), wl, rc)) (hO : ar p = 0 → (∀ i, i < n → ¬ mk (p * 9 + i) = 4) → ¬ S p = 0 → post 0 (nI T, nI P, nI N, nI Q, dc, nI al, ic, tx, dx, st, S, O, upd ar p 1, lx, h, mi, mk, mp, wl, rc)) : wpX_requestNoSenders post (nI T, nI P, nI N, nI Q, dc, nI al, ic, tx, dx, st, S, O, ar, lx, h, mi, mk, mp, wl, rc) (nI t) (nI (m + 1)) := by
  have v1 : vp_in (nI p) 16 := vp_in_nI h16 (by omega)
  have c1 : (nI p).toNatClampNeg = p := nI_clamp (by omega)
  unfold wpX_requestNoSenders
  refine xm_rr0 ht hT hm hN h0 (br_t rfl ?_)
  refine xm_cell ⟨vp_in_nI (by omega) (by omega), nm_r (e' := nI p) (by rw [nI_clamp (by omega)]; exact hd) ⟨v1, ?_⟩⟩
  by_cases z : ar p = 0
  · refine br_t (by rw [c1]; exact z) (xm_hn h16 h9 hl (fun a => br_f mr_10 (hH z a)) (fun a => br_t rfl ⟨v1, ?_⟩))
    by_cases z2 : S p = 0
    · obtain ⟨n8, hp⟩ := hS z a z2
      exact br_t (by rw [c1]; exact z2) (xm_append h16 n8 hl hp)
    · exact br_f (by rw [c1]; exact z2) ⟨v1, nm_r (e' := upd ar p 1) (by rw [c1, mr_nb1]) (hO z a z2)⟩
  · exact br_f (by rw [c1]; exact z) (hA z)
theorem ym_rq {post : Int32 → SY → Prop} (ht : t < T) (hT : T ≤ 4) (hm : m < N) (hN : N ≤ 8) (h0 : ¬ ty (t * 9 + (m + 1)) &&& 1 = 0) (hd : dy (t * 9 + (m + 1)) = nI p) (hp : p < P) (hP : P ≤ 16) (h9 : n ≤ 9) (hl : ly p = nI n) (hA : ¬ ar p = 0 → post (-7) (nI T, nI P, nI N, nI Q, nI al, ic, r0, r1, r2, r3, ty, dy, st, S, O, ar, qi, qk, qp, ly, wl)) (hH : ar p = 0 → (∃ i, i < n ∧ qk (p * 9 + i) = 4) → post (-7) (nI T, nI P, nI N, nI Q, nI al, ic, r0, r1, r2, r3, ty, dy, st, S, O, ar, qi, qk, qp, ly, wl)) (hS : ar p = 0 → (∀ i, i < n → ¬ qk (p * 9 + i) = 4) → S p = 0 → n ≤ 8 ∧ post (ic + 1) (nI T, nI P, nI N, nI Q, nI al, ic + 1, r0, r1, r2, r3, ty, dy, st, S, O, ar, upd qi (p * 9 + n) (ic + 1), upd qk (p * 9 + n) 4, upd qp (p * 9 + n) (-1), upd ly p (nI (n + 1)), wl)) (hO : ar p = 0 → (∀ i, i < n → ¬ qk (p * 9 + i) = 4) → ¬ S p = 0 → post 0 (nI T, nI P, nI N, nI Q, nI al, ic, r0, r1, r2, r3, ty, dy, st, S, O, upd ar p 1, qi, qk, qp, ly, wl)) : wpY_requestNoSenders post (nI T, nI P, nI N, nI Q, nI al, ic, r0, r1, r2, r3, ty, dy, st, S, O, ar, qi, qk, qp, ly, wl) (nI t) (nI (m + 1)) := by
  have v1 : vp_in (nI p) 16 := vp_in_nI (by omega) (by omega)
  have c1 : (nI p).toNatClampNeg = p := nI_clamp (by omega)
  have v2 := mr_yv (t := t) (n := m + 1) (by omega) (by omega)
  have c2 := mr_ycl (t := t) (n := m + 1) (by omega) (by omega)
  unfold wpY_requestNoSenders
  refine ym_task1 ht hT (br_f mr_10 ?_)
  refine ym_name1 hm hN (br_f mr_10 ⟨v2, br_f (by rw [c2]; exact h0) ⟨v2, nm_r (e' := nI p) (by rw [c2]; exact hd) (br_f (nI_pos (by omega)) (br_t (nI_lt hp (by omega)) ⟨v1, ?_⟩))⟩⟩)
  by_cases z : ar p = 0
  · refine br_t (by rw [c1]; exact z) (ym_hn (by omega) h9 hl (fun a => br_f mr_10 (hH z a)) (fun a => br_t rfl ⟨v1, ?_⟩))
    by_cases z2 : S p = 0
    · obtain ⟨n8, hq⟩ := hS z a z2
      exact br_t (by rw [c1]; exact z2) (ym_append hp hP n8 hl hq)
    · exact br_f (by rw [c1]; exact z2) ⟨v1, nm_r (e' := upd ar p 1) (by rw [c1, mr_nb1]) (hO z a z2)⟩
  · exact br_f (by rw [c1]; exact z) (hA z)
/-- the queue's kinds are the same on both sides -/
theorem mr_gk (hR : mr_R (fun _ => False) 16 0 T P N Q al l tx dx st S O ar lx h mi mk mp ty dy qi qk qp ly) (hp : p < 16) : ∀ i, i < l p → mi (p * 9 + i) = qi (p * 9 + i) ∧ mk (p * 9 + i) = qk (p * 9 + i) ∧ mp (p * 9 + i) = qp (p * 9 + i) := by
  intro i hi
  have d1 := hR.2.2.2.2.1 p i hp hi
  have d2 := hR.2.2.2.2.2.1 p i hp hi
  have d3 := hR.2.2.2.2.2.2.1 p i hp hi
  rw [if_neg (by omega), Nat.add_zero] at d1 d2 d3
  exact ⟨d1, d2, d3⟩
end
theorem i_vc_requestNoSenders {k : Nat} {u : SX} {v : SY} (I : i_Rel k u v) (hk : k + 5 ≤ 2564) (v1 : Int32) (v2 : Int32) : wpX_requestNoSenders (fun r u' => wpY_requestNoSenders (fun r' v' => r' = r ∧ i_Rel (k + 5) u' v') v v1 v2) u v1 v2 := by
  obtain ⟨T, P, N, Q, al, l, dc, ic, tx, dx, st, S, O, ar, lx, h, mi, mk, mp, wl, rc, ty, dy, qi, qk, qp, ly, rfl, rfl, hR⟩ := I
  obtain ⟨b1, b2, b3, b4, b5, b6⟩ := mr_Rb hR
  have F := mr_fin (kk := k + 5) (dc := dc) (ic := ic) (wl := wl) (rc := rc) hR rfl rfl rfl rfl
  rcases mr_tk (T := T) v1 (by omega) with hy | ⟨t, ht, rfl⟩
  · exact xm_requestNoSendersT hy (ym_requestNoSendersT hy ⟨rfl, F⟩)
  rcases mr_nk (N := N) v2 b4 with hn | ⟨m, hm, rfl⟩
  · exact xm_requestNoSendersN ht b1 hn (ym_requestNoSendersN ht b1 hn ⟨rfl, F⟩)
  have hI := hR.2.2.2.2.2.2.2.2
  have nn := hR.2.1 t m (by omega) (by omega)
  have tk := mr_Ntok (c := t * 9 + (m + 1)) hI.1 (by omega)
  by_cases hr : ty (t * 9 + (m + 1)) &&& 1 = 0
  · exact xm_requestNoSendersF ht b1 hm b4 (by rw [nn.1]; exact hr) (ym_requestNoSendersF ht b1 hm b4 hr ⟨rfl, F⟩)
  · have hr' : ty (t * 9 + (m + 1)) = 1 ∨ ty (t * 9 + (m + 1)) = 3 := Classical.byContradiction (fun a => hr ((mr_a1 tk).mpr a))
    obtain ⟨p, hp, hd, hs⟩ := mr_Nr hI.1 (by omega) hr'
    have hl : mr_lv st p := Or.inl hs
    obtain ⟨e1, e2, e3, e4⟩ := mr_lxy hR (p := p) (by omega)
    have gk := mr_gk hR (p := p) (by omega)
    have X0 : ¬ tx (t * 8 + m) &&& 1 = 0 := by rw [nn.1]; exact hr
    refine xm_rq ht b1 hm b4 X0 (nn.2.trans hd) (by omega) e3 e1 (fun z => ?_) (fun z a => ?_) (fun z a s => ?_) (fun z a s => ?_)
    · exact ym_rq ht b1 hm b4 hr hd (by omega) b3 e3 e2 (fun _ => ⟨rfl, F⟩) (fun q => absurd q z) (fun q => absurd q z) (fun q => absurd q z)
    · obtain ⟨i, hi, h4⟩ := a
      have h4' : qk (p * 9 + i) = 4 := (gk i hi).2.1.symm.trans h4
      exact ym_rq ht b1 hm b4 hr hd (by omega) b3 e3 e2 (fun q => absurd z q) (fun _ _ => ⟨rfl, F⟩) (fun _ q => absurd h4' (q i hi)) (fun _ q => absurd h4' (q i hi))
    · have a' : ∀ i, i < l p → ¬ qk (p * 9 + i) = 4 := fun i hi q => a i hi ((gk i hi).2.1.trans q)
      obtain ⟨l8, r⟩ := mr_Rapp (i := ic + 1) (k := 4) (z := -1) hR (p := p) (by omega) (by omega) hl (Or.inl ⟨Or.inr rfl, rfl⟩) (Or.inl ⟨rfl, z, (mr_ocn a').symm⟩)
      have r' := mr_RW (W' := fun _ => False) r (fun x _ => ⟨fun w => w.1, fun w => absurd w not_false⟩)
      exact ⟨l8, ym_rq ht b1 hm b4 hr hd (by omega) b3 e3 e2 (fun q => absurd z q) (fun _ ⟨i, hi, q⟩ => absurd q (a' i hi)) (fun _ _ _ => ⟨l8, rfl, mr_fin r' rfl rfl rfl rfl⟩) (fun _ _ q => absurd s q)⟩
    · have a' : ∀ i, i < l p → ¬ qk (p * 9 + i) = 4 := fun i hi q => a i hi ((gk i hi).2.1.trans q)
      have r := mr_Ra (v := 1) hR hl (Or.inr rfl) (fun _ => (mr_ocn a').symm)
      exact ym_rq ht b1 hm b4 hr hd (by omega) b3 e3 e2 (fun q => absurd z q) (fun _ ⟨i, hi, q⟩ => absurd q (a' i hi)) (fun _ _ q => absurd q s) (fun _ _ _ => ⟨rfl, mr_fin r rfl rfl rfl rfl⟩)
