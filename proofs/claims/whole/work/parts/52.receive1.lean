/-! receive: the walks -/
def mr_shf (p n : Nat) (a : Nat → Int32) : Nat → Int32 := fun c => if p * 9 ≤ c ∧ c < p * 9 + n then a (c + 1) else a c
theorem mr_Shf {p n : Nat} {a : Nat → Int32} : mr_Sh p n a (mr_shf p n a) := by
  refine ⟨fun i hi => ?_, fun c hc => ?_⟩
  · exact (if_pos (by omega)).trans rfl
  · exact if_neg (by omega)
theorem mr_Shu {p n : Nat} {a a' : Nat → Int32} (h : mr_Sh p n a a') : a' = mr_shf p n a := by
  funext c
  by_cases q : p * 9 ≤ c ∧ c < p * 9 + n
  · have e : c = p * 9 + (c - p * 9) := by omega
    have r := h.1 (c - p * 9) (by omega)
    have e2 : p * 9 + (c - p * 9 + 1) = c + 1 := by omega
    rw [← e, e2] at r
    rw [r]
    exact (if_pos q).symm
  · rw [h.2 c (by omega)]
    exact (if_neg q).symm
section
variable {W W' : Nat → Prop} {e off T P N Q al p n t m x c D : Nat} {l : Nat → Nat} {dc ic r0 r1 r2 r3 : Int32} {tx dx st S O ar lx h mi mk mp wl rc ty dy qi qk qp ly : Nat → Int32} {v w i k z : Int32}
variable {m2 : Nat} {S' ar' tx' dx' st' lx' mi' mk' mp' ty' dy' qi' qk' qp' ly' : Nat → Int32} {ic' kr nn : Int32}
theorem xm_rd {post : SX → Prop} (hp : p < 16) (h8 : n ≤ 8) (hl : lx p = nI (n + 1)) (hq : post (nI T, nI P, nI N, nI Q, dc, nI al, ic, tx, dx, st, S, O, ar, upd lx p (nI n), h, mr_shf p n mi, mr_shf p n mk, mr_shf p n mp, wl, rc)) : wpX_removeHead post (nI T, nI P, nI N, nI Q, dc, nI al, ic, tx, dx, st, S, O, ar, lx, h, mi, mk, mp, wl, rc) (nI p) :=
  xm_re hp h8 hl (fun mi' mk' mp' s1 s2 s3 => by rw [mr_Shu s1, mr_Shu s2, mr_Shu s3]; exact hq)
theorem ym_rd {post : SY → Prop} (hp : p < P) (hP : P ≤ 16) (h8 : n ≤ 8) (hl : ly p = nI (n + 1)) (hq : post (nI T, nI P, nI N, nI Q, nI al, ic, r0, r1, r2, r3, ty, dy, st, S, O, ar, mr_shf p n qi, mr_shf p n qk, mr_shf p n qp, upd ly p (nI n), wl)) : wpY_removeHead post (nI T, nI P, nI N, nI Q, nI al, ic, r0, r1, r2, r3, ty, dy, st, S, O, ar, qi, qk, qp, ly, wl) (nI p) :=
  ym_re hp hP h8 hl (fun mi' mk' mp' s1 s2 s3 => by rw [mr_Shu s1, mr_Shu s2, mr_Shu s3]; exact hq)
theorem xm_cr1 {post : Int32 → Prop} (hk : k = 1 ∨ k = 2 ∨ k = 3) (hp : post 1) : wpX_carriesRight post k := by
  unfold wpX_carriesRight
  rcases hk with rfl | rfl | rfl
  · exact br_t rfl hp
  · exact br_f (by decide) (br_t rfl hp)
  · exact br_f (by decide) (br_f (by decide) (br_t rfl hp))
theorem xm_cr0 {post : Int32 → Prop} (hk : k = 0 ∨ k = 4 ∨ k = 5) (hp : post 0) : wpX_carriesRight post k := by
  unfold wpX_carriesRight
  rcases hk with rfl | rfl | rfl
  · exact br_f (by decide) (br_f (by decide) (br_f (by decide) hp))
  · exact br_f (by decide) (br_f (by decide) (br_f (by decide) hp))
  · exact br_f (by decide) (br_f (by decide) (br_f (by decide) hp))
theorem xm_kr0 {post : Int32 → Prop} {y : Int32} (hk : k = 0 ∨ k = 4) (hp : post k) : wpX_kindReceived post (nI T, nI P, nI N, nI Q, dc, nI al, ic, tx, dx, st, S, O, ar, lx, h, mi, mk, mp, wl, rc) k y := by
  unfold wpX_kindReceived
  exact xm_cr0 (hk.elim Or.inl (fun a => Or.inr (Or.inl a))) (br_t rfl hp)
theorem xm_krd {post : Int32 → Prop} (h16 : x < 16) (hl : ¬ mr_lv st x) (hk : k = 1 ∨ k = 2 ∨ k = 3) (hp : post 5) : wpX_kindReceived post (nI T, nI P, nI N, nI Q, dc, nI al, ic, tx, dx, st, S, O, ar, lx, h, mi, mk, mp, wl, rc) k (nI x) := by
  unfold wpX_kindReceived
  refine xm_cr1 hk (br_f mr_10 ?_)
  exact xm_live0 h16 hl (br_t rfl hp)
theorem xm_krl {post : Int32 → Prop} (h16 : x < 16) (hl : mr_lv st x) (hk : k = 1 ∨ k = 2 ∨ k = 3) (hp : post k) : wpX_kindReceived post (nI T, nI P, nI N, nI Q, dc, nI al, ic, tx, dx, st, S, O, ar, lx, h, mi, mk, mp, wl, rc) k (nI x) := by
  unfold wpX_kindReceived
  refine xm_cr1 hk (br_f mr_10 ?_)
  exact xm_live1 h16 hl (br_f mr_10 hp)
theorem xm_rcE {post : Int32 → SX → Prop} (ht : t < T) (hT : T ≤ 4) (hm : m < N) (hN : N ≤ 8) (h0 : ¬ tx (t * 8 + m) &&& 1 = 0) (hd : dx (t * 8 + m) = nI p) (h16 : p < 16) (hl : lx p = 0) (hp : post (-5) (nI T, nI P, nI N, nI Q, dc, nI al, ic, tx, dx, st, S, O, ar, lx, h, mi, mk, mp, wl, rc)) : wpX_receive post (nI T, nI P, nI N, nI Q, dc, nI al, ic, tx, dx, st, S, O, ar, lx, h, mi, mk, mp, wl, rc) (nI t) (nI (m + 1)) := by
  unfold wpX_receive
  refine xm_rr0 ht hT hm hN h0 (br_t rfl ?_)
  exact xm_cell ⟨vp_in_nI (by omega) (by omega), nm_r (e' := nI p) (by rw [nI_clamp (by omega)]; exact hd) ⟨vp_in_nI h16 (by omega), br_t (by rw [nI_clamp (by omega)]; exact hl) hp⟩⟩
theorem xm_rcA {post : Int32 → SX → Prop} (ht : t < T) (hT : T ≤ 4) (hm : m < N) (hN : N ≤ 8) (h0 : ¬ tx (t * 8 + m) &&& 1 = 0) (hd : dx (t * 8 + m) = nI p) (h16 : p < 16) (h8 : n ≤ 8) (hl : lx p = nI (n + 1)) (hkr : ∀ q : Int32 → Prop, q kr → wpX_kindReceived q (nI T, nI P, nI N, nI Q, dc, nI al, ic, tx, dx, st, S, O, ar, lx, h, mi, mk, mp, wl, rc) (mk (p * 9)) (mp (p * 9))) (hcr : ∀ q : Int32 → Prop, q 0 → wpX_carriesRight q kr) (hp : post (mi (p * 9)) (nI T, nI P, nI N, nI Q, dc, nI al, ic, tx, dx, st, S, O, ar, upd lx p (nI n), h, mr_shf p n mi, mr_shf p n mk, mr_shf p n mp, wl, upd (upd (upd (upd rc 0 (mi (p * 9))) 1 kr) 2 0) 3 (mp (p * 9)))) : wpX_receive post (nI T, nI P, nI N, nI Q, dc, nI al, ic, tx, dx, st, S, O, ar, lx, h, mi, mk, mp, wl, rc) (nI t) (nI (m + 1)) := by
  have v9 : vp_in (nI (p * 9)) 144 := vp_in_nI (by omega) (by omega)
  have c9 : (nI (p * 9)).toNatClampNeg = p * 9 := nI_clamp (by omega)
  unfold wpX_receive
  refine xm_rr0 ht hT hm hN h0 (br_t rfl ?_)
  refine xm_cell ⟨vp_in_nI (by omega) (by omega), nm_r (e' := nI p) (by rw [nI_clamp (by omega)]; exact hd) ⟨vp_in_nI h16 (by omega), br_f (by rw [nI_clamp (by omega), hl]; exact nI_ne0 (by omega) (by omega)) (nm_r mr_9 ⟨v9, nm_r (e' := mi (p * 9)) (by rw [c9]) ⟨v9, nm_r (e' := mp (p * 9)) (by rw [c9]) ⟨v9, ?_⟩⟩⟩)⟩⟩
  rw [c9]
  refine hkr _ (hcr _ (br_t rfl (br_t rfl ?_)))
  exact xm_rd h16 h8 hl (br_t rfl (nm_e (nm_e (nm_e (nm_e hp)))))
theorem xm_rcF {post : Int32 → SX → Prop} (ht : t < T) (hT : T ≤ 4) (hm : m < N) (hN : N ≤ 8) (h0 : ¬ tx (t * 8 + m) &&& 1 = 0) (hd : dx (t * 8 + m) = nI p) (h16 : p < 16) (h8 : n ≤ 8) (hl : lx p = nI (n + 1)) (hkr : ∀ q : Int32 → Prop, q kr → wpX_kindReceived q (nI T, nI P, nI N, nI Q, dc, nI al, ic, tx, dx, st, S, O, ar, lx, h, mi, mk, mp, wl, rc) (mk (p * 9)) (mp (p * 9))) (hcr : ∀ q : Int32 → Prop, q 1 → wpX_carriesRight q kr) (hcn : ∀ q : Int32 → Prop, q 0 → wpX_copyoutName q (nI T, nI P, nI N, nI Q, dc, nI al, ic, tx, dx, st, S, O, ar, lx, h, mi, mk, mp, wl, rc) (nI t) kr (mp (p * 9))) (hp : post (-4) (nI T, nI P, nI N, nI Q, dc, nI al, ic, tx, dx, st, S, O, ar, lx, h, mi, mk, mp, wl, rc)) : wpX_receive post (nI T, nI P, nI N, nI Q, dc, nI al, ic, tx, dx, st, S, O, ar, lx, h, mi, mk, mp, wl, rc) (nI t) (nI (m + 1)) := by
  have v9 : vp_in (nI (p * 9)) 144 := vp_in_nI (by omega) (by omega)
  have c9 : (nI (p * 9)).toNatClampNeg = p * 9 := nI_clamp (by omega)
  unfold wpX_receive
  refine xm_rr0 ht hT hm hN h0 (br_t rfl ?_)
  refine xm_cell ⟨vp_in_nI (by omega) (by omega), nm_r (e' := nI p) (by rw [nI_clamp (by omega)]; exact hd) ⟨vp_in_nI h16 (by omega), br_f (by rw [nI_clamp (by omega), hl]; exact nI_ne0 (by omega) (by omega)) (nm_r mr_9 ⟨v9, nm_r (e' := mi (p * 9)) (by rw [c9]) ⟨v9, nm_r (e' := mp (p * 9)) (by rw [c9]) ⟨v9, ?_⟩⟩⟩)⟩⟩
  rw [c9]
  refine hkr _ (hcr _ (br_f mr_10 ?_))
  exact hcn _ (br_f mr_10 (br_t rfl hp))
theorem xm_rcC {post : Int32 → SX → Prop} (ht : t < T) (hT : T ≤ 4) (hm : m < N) (hN : N ≤ 8) (h0 : ¬ tx (t * 8 + m) &&& 1 = 0) (hd : dx (t * 8 + m) = nI p) (h16 : p < 16) (h8 : n ≤ 8) (hl : lx p = nI (n + 1)) (hkr : ∀ q : Int32 → Prop, q kr → wpX_kindReceived q (nI T, nI P, nI N, nI Q, dc, nI al, ic, tx, dx, st, S, O, ar, lx, h, mi, mk, mp, wl, rc) (mk (p * 9)) (mp (p * 9))) (hcr : ∀ q : Int32 → Prop, q 1 → wpX_carriesRight q kr) (hm2 : m2 < N) (hcn : ∀ q : Int32 → Prop, q (nI (m2 + 1)) → wpX_copyoutName q (nI T, nI P, nI N, nI Q, dc, nI al, ic, tx, dx, st, S, O, ar, lx, h, mi, mk, mp, wl, rc) (nI t) kr (mp (p * 9))) (hC : ∀ q : SX → Prop, q (nI T, nI P, nI N, nI Q, dc, nI al, ic', tx', dx', st', S', O, ar', lx', h, mi', mk', mp', wl, rc) → wpX_copyOut q (nI T, nI P, nI N, nI Q, dc, nI al, ic, tx, dx, st, S, O, ar, upd lx p (nI n), h, mr_shf p n mi, mr_shf p n mk, mr_shf p n mp, wl, rc) (nI t) (nI (m2 + 1)) kr (mp (p * 9))) (hp : post (mi (p * 9)) (nI T, nI P, nI N, nI Q, dc, nI al, ic', tx', dx', st', S', O, ar', lx', h, mi', mk', mp', wl, upd (upd (upd (upd rc 0 (mi (p * 9))) 1 kr) 2 (nI (m2 + 1))) 3 (mp (p * 9)))) : wpX_receive post (nI T, nI P, nI N, nI Q, dc, nI al, ic, tx, dx, st, S, O, ar, lx, h, mi, mk, mp, wl, rc) (nI t) (nI (m + 1)) := by
  have v9 : vp_in (nI (p * 9)) 144 := vp_in_nI (by omega) (by omega)
  have c9 : (nI (p * 9)).toNatClampNeg = p * 9 := nI_clamp (by omega)
  unfold wpX_receive
  refine xm_rr0 ht hT hm hN h0 (br_t rfl ?_)
  refine xm_cell ⟨vp_in_nI (by omega) (by omega), nm_r (e' := nI p) (by rw [nI_clamp (by omega)]; exact hd) ⟨vp_in_nI h16 (by omega), br_f (by rw [nI_clamp (by omega), hl]; exact nI_ne0 (by omega) (by omega)) (nm_r mr_9 ⟨v9, nm_r (e' := mi (p * 9)) (by rw [c9]) ⟨v9, nm_r (e' := mp (p * 9)) (by rw [c9]) ⟨v9, ?_⟩⟩⟩)⟩⟩
  rw [c9]
  refine hkr _ (hcr _ (br_f mr_10 ?_))
  refine hcn _ (br_f mr_10 (br_f (nI_ne0 (by omega) (by omega)) ?_))
  refine xm_rd h16 h8 hl (br_f mr_10 ?_)
  exact hC _ (nm_e (nm_e (nm_e (nm_e hp))))
/-! and in the reference -/
theorem ym_rcE {post : Int32 → SY → Prop} (ht : t < T) (hT : T ≤ 4) (hm : m < N) (hN : N ≤ 8) (h0 : ¬ ty (t * 9 + (m + 1)) &&& 1 = 0) (hd : dy (t * 9 + (m + 1)) = nI p) (h1 : p < P) (hP : P ≤ 16) (hl : ly p = 0) (hp : post (-5) (nI T, nI P, nI N, nI Q, nI al, ic, r0, r1, r2, r3, ty, dy, st, S, O, ar, qi, qk, qp, ly, wl)) : wpY_receive post (nI T, nI P, nI N, nI Q, nI al, ic, r0, r1, r2, r3, ty, dy, st, S, O, ar, qi, qk, qp, ly, wl) (nI t) (nI (m + 1)) := by
  have v2 := mr_yv (t := t) (n := m + 1) (by omega) (by omega)
  have c2 := mr_ycl (t := t) (n := m + 1) (by omega) (by omega)
  unfold wpY_receive
  refine ym_task1 ht hT (br_f mr_10 ?_)
  exact ym_name1 hm hN (br_f mr_10 ⟨v2, br_f (by rw [c2]; exact h0) ⟨v2, nm_r (e' := nI p) (by rw [c2]; exact hd) (br_f (nI_pos (by omega)) (br_f (nI_ge h1 (by omega)) ⟨vp_in_nI (by omega) (by omega), br_t (by rw [nI_clamp (by omega)]; exact hl) hp⟩))⟩⟩)
theorem ym_rcP {post : Int32 → SY → Prop} {s2 : Nat} (ht : t < T) (hT : T ≤ 4) (hm : m < N) (hN : N ≤ 8) (h0 : ¬ ty (t * 9 + (m + 1)) &&& 1 = 0) (hd : dy (t * 9 + (m + 1)) = nI p) (h1 : p < P) (hP : P ≤ 16) (h8 : n ≤ 8) (hl : ly p = nI (n + 1)) (hnn : ∀ q : Int32 → Prop, q nn → wpY_needsNew q (nI T, nI P, nI N, nI Q, nI al, ic, r0, r1, r2, r3, ty, dy, st, S, O, ar, qi, qk, qp, ly, wl) (nI t) (qk (p * 9)) (qp (p * 9))) (hr2 : mr_lst (fun n => ty (t * 9 + n) = 0) N s2) (hA : nn = 0 → wY_receive_129 post (nI t) (nI p) (qi (p * 9)) (qk (p * 9)) (qp (p * 9)) (nI T) (nI P) (nI N) (nI Q) (nI al) ic r0 r1 r2 r3 ty dy st S O ar qi qk qp ly wl) (hB : ¬ nn = 0 → s2 = 0 → post (-4) (nI T, nI P, nI N, nI Q, nI al, ic, r0, r1, r2, r3, ty, dy, st, S, O, ar, qi, qk, qp, ly, wl)) (hC : ¬ nn = 0 → ¬ s2 = 0 → wY_receive_129 post (nI t) (nI p) (qi (p * 9)) (qk (p * 9)) (qp (p * 9)) (nI T) (nI P) (nI N) (nI Q) (nI al) ic r0 r1 r2 r3 ty dy st S O ar qi qk qp ly wl) : wpY_receive post (nI T, nI P, nI N, nI Q, nI al, ic, r0, r1, r2, r3, ty, dy, st, S, O, ar, qi, qk, qp, ly, wl) (nI t) (nI (m + 1)) := by
  have v2 := mr_yv (t := t) (n := m + 1) (by omega) (by omega)
  have c2 := mr_ycl (t := t) (n := m + 1) (by omega) (by omega)
  have v9 : vp_in (nI p * 9) 144 := by
    rw [mr_9]
    exact vp_in_nI (by omega) (by omega)
  have c9 : (nI p * 9).toNatClampNeg = p * 9 := by
    rw [mr_9]
    exact nI_clamp (by omega)
  unfold wpY_receive
  refine ym_task1 ht hT (br_f mr_10 ?_)
  refine ym_name1 hm hN (br_f mr_10 ⟨v2, br_f (by rw [c2]; exact h0) ⟨v2, nm_r (e' := nI p) (by rw [c2]; exact hd) (br_f (nI_pos (by omega)) (br_f (nI_ge h1 (by omega)) ⟨vp_in_nI (by omega) (by omega), br_f (by rw [nI_clamp (by omega), hl]; exact nI_ne0 (by omega) (by omega)) ⟨v9, nm_r (e' := qi (p * 9)) (by rw [c9]) ⟨v9, nm_r (e' := qk (p * 9)) (by rw [c9]) ⟨v9, nm_r (e' := qp (p * 9)) (by rw [c9]) ?_⟩⟩⟩⟩))⟩⟩)
  refine hnn _ ?_
  by_cases z : nn = 0
  · exact br_t z (hA z)
  · refine br_f z (ym_lf (by omega) hN hr2 ?_)
    by_cases z2 : s2 = 0
    · exact br_t (by rw [z2]; exact nI_0) (hB z z2)
    · have l1 : s2 ≤ N := by
        rcases hr2 with a | a
        · omega
        · omega
      exact br_f (nI_ne0 (by omega) (by omega)) (hC z z2)
theorem ym_129a {post : Int32 → SY → Prop} {y y2 y3 : Int32} (h1 : p < P) (hP : P ≤ 16) (h8 : n ≤ 8) (hl : ly p = nI (n + 1)) (hk : k = 0 ∨ k = 4) (hp : post y2 (nI T, nI P, nI N, nI Q, nI al, ic, y2, k, 0, -1, ty, dy, st, S, O, ar, mr_shf p n qi, mr_shf p n qk, mr_shf p n qp, upd ly p (nI n), wl)) : wY_receive_129 post y (nI p) y2 k y3 (nI T) (nI P) (nI N) (nI Q) (nI al) ic r0 r1 r2 r3 ty dy st S O ar qi qk qp ly wl := by
  unfold wY_receive_129
  refine ym_rd h1 hP h8 hl ?_
  rcases hk with rfl | rfl
  · exact br_f (by decide) (br_f (by decide) (br_f (by decide) hp))
  · exact br_f (by decide) (br_f (by decide) (br_f (by decide) hp))
theorem ym_129d {post : Int32 → SY → Prop} {y y2 : Int32} (h1 : p < P) (hP : P ≤ 16) (h8 : n ≤ 8) (hl : ly p = nI (n + 1)) (hk : k = 1 ∨ k = 2) (hx : x < 16) (hd : ¬ mr_lv st x) (hp : post y2 (nI T, nI P, nI N, nI Q, nI al, ic, y2, 5, 0, nI x, ty, dy, st, S, O, ar, mr_shf p n qi, mr_shf p n qk, mr_shf p n qp, upd ly p (nI n), wl)) : wY_receive_129 post y (nI p) y2 k (nI x) (nI T) (nI P) (nI N) (nI Q) (nI al) ic r0 r1 r2 r3 ty dy st S O ar qi qk qp ly wl := by
  unfold wY_receive_129
  refine ym_rd h1 hP h8 hl ?_
  rcases hk with rfl | rfl
  · refine br_t rfl ?_
    unfold wY_receive_157
    exact ym_live0 hx hP hd (br_t rfl hp)
  · refine br_f (by decide) (br_t rfl ?_)
    unfold wY_receive_157
    exact ym_live0 hx hP hd (br_t rfl hp)
theorem ym_129s {post : Int32 → SY → Prop} {y y2 : Int32} (h1 : p < P) (hP : P ≤ 16) (h8 : n ≤ 8) (hl : ly p = nI (n + 1)) (hk : k = 1 ∨ k = 2) (hx : x < P) (hd : mr_lv st x) (hC : ∀ q : Int32 → SY → Prop, q w (nI T, nI P, nI N, nI Q, nI al, ic', r0, r1, r2, r3, ty', dy', st', S', O, ar', qi', qk', qp', ly', wl) → wpY_copyout q (nI T, nI P, nI N, nI Q, nI al, ic, r0, r1, r2, r3, ty, dy, st, S, O, ar, mr_shf p n qi, mr_shf p n qk, mr_shf p n qp, upd ly p (nI n), wl) y k (nI x)) (hp : post y2 (nI T, nI P, nI N, nI Q, nI al, ic', y2, k, w, nI x, ty', dy', st', S', O, ar', qi', qk', qp', ly', wl)) : wY_receive_129 post y (nI p) y2 k (nI x) (nI T) (nI P) (nI N) (nI Q) (nI al) ic r0 r1 r2 r3 ty dy st S O ar qi qk qp ly wl := by
  unfold wY_receive_129
  refine ym_rd h1 hP h8 hl ?_
  rcases hk with rfl | rfl
  · refine br_t rfl ?_
    unfold wY_receive_157
    refine ym_live1 hx hP hd (br_f mr_10 ?_)
    exact hC _ hp
  · refine br_f (by decide) (br_t rfl ?_)
    unfold wY_receive_157
    refine ym_live1 hx hP hd (br_f mr_10 ?_)
    exact hC _ hp
theorem ym_129r {post : Int32 → SY → Prop} {y y2 : Int32} (h1 : p < P) (hP : P ≤ 16) (h8 : n ≤ 8) (hl : ly p = nI (n + 1)) (hC : ∀ q : Int32 → SY → Prop, q w (nI T, nI P, nI N, nI Q, nI al, ic', r0, r1, r2, r3, ty', dy', st', S', O, ar', qi', qk', qp', ly', wl) → wpY_copyout q (nI T, nI P, nI N, nI Q, nI al, ic, r0, r1, r2, r3, ty, dy, st, S, O, ar, mr_shf p n qi, mr_shf p n qk, mr_shf p n qp, upd ly p (nI n), wl) y 3 (nI x)) (hp : post y2 (nI T, nI P, nI N, nI Q, nI al, ic', y2, 3, w, nI x, ty', dy', st', S', O, ar', qi', qk', qp', ly', wl)) : wY_receive_129 post y (nI p) y2 3 (nI x) (nI T) (nI P) (nI N) (nI Q) (nI al) ic r0 r1 r2 r3 ty dy st S O ar qi qk qp ly wl := by
  unfold wY_receive_129
  refine ym_rd h1 hP h8 hl ?_
  refine br_f (by decide) (br_f (by decide) (br_t rfl ?_))
  exact hC _ hp
end
