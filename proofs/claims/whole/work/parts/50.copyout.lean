/-! a right is copied out to a name, on both sides -/
section
variable {W W' : Nat → Prop} {e off T P N Q al p n t m x c D : Nat} {l : Nat → Nat} {dc ic r0 r1 r2 r3 : Int32} {tx dx st S O ar lx h mi mk mp wl rc ty dy qi qk qp ly : Nat → Int32} {v w i k z : Int32}
theorem xm_co1a {post : SX → Prop} {u : SX} (ht : t < 4) (hm : m < 8) (h0 : ¬ tx (t * 8 + m) &&& 2 = 0) (hd : dx (t * 8 + m) = nI p) (hX : ∀ q : SX → Prop, q u → wpX_dropSend q (nI T, nI P, nI N, nI Q, dc, nI al, ic, tx, dx, st, S, O, ar, lx, h, mi, mk, mp, wl, rc) (nI p)) (hp : post u) : wpX_copyOut post (nI T, nI P, nI N, nI Q, dc, nI al, ic, tx, dx, st, S, O, ar, lx, h, mi, mk, mp, wl, rc) (nI t) (nI (m + 1)) 1 (nI p) := by
  have v1 : vp_in (nI (t * 8 + m)) 32 := vp_in_nI (by omega) (by omega)
  have c1 : (nI (t * 8 + m)).toNatClampNeg = t * 8 + m := nI_clamp (by omega)
  unfold wpX_copyOut
  refine xm_cell ⟨v1, nm_r (e' := dx) (by rw [c1, mr_ui hd]) (br_f (by decide) (br_f (by decide) ⟨v1, br_f (by rw [c1]; exact h0) ?_⟩))⟩
  refine hX _ ?_
  obtain ⟨_, _, _, _, _, _, _, _, _, _, _, _, _, _, _, _, _, _, _, _⟩ := u
  exact hp
theorem xm_co1b {post : SX → Prop} (ht : t < 4) (hm : m < 8) (h0 : tx (t * 8 + m) &&& 2 = 0) (hv : tx (t * 8 + m) ||| 2 = v) (hp : post (nI T, nI P, nI N, nI Q, dc, nI al, ic, upd tx (t * 8 + m) v, upd dx (t * 8 + m) (nI p), st, S, O, ar, lx, h, mi, mk, mp, wl, rc)) : wpX_copyOut post (nI T, nI P, nI N, nI Q, dc, nI al, ic, tx, dx, st, S, O, ar, lx, h, mi, mk, mp, wl, rc) (nI t) (nI (m + 1)) 1 (nI p) := by
  have v1 : vp_in (nI (t * 8 + m)) 32 := vp_in_nI (by omega) (by omega)
  have c1 : (nI (t * 8 + m)).toNatClampNeg = t * 8 + m := nI_clamp (by omega)
  unfold wpX_copyOut
  exact xm_cell ⟨v1, nm_r (e' := upd dx (t * 8 + m) (nI p)) (by rw [c1]) (br_f (by decide) (br_f (by decide) ⟨v1, br_t (by rw [c1]; exact h0) ⟨v1, v1, nm_r (e' := upd tx (t * 8 + m) v) (by rw [c1, hv]) hp⟩⟩))⟩
theorem xm_co2 {post : SX → Prop} (ht : t < 4) (hm : m < 8) (hp : post (nI T, nI P, nI N, nI Q, dc, nI al, ic, upd tx (t * 8 + m) 4, upd dx (t * 8 + m) (nI p), st, S, O, ar, lx, h, mi, mk, mp, wl, rc)) : wpX_copyOut post (nI T, nI P, nI N, nI Q, dc, nI al, ic, tx, dx, st, S, O, ar, lx, h, mi, mk, mp, wl, rc) (nI t) (nI (m + 1)) 2 (nI p) := by
  have v1 : vp_in (nI (t * 8 + m)) 32 := vp_in_nI (by omega) (by omega)
  have c1 : (nI (t * 8 + m)).toNatClampNeg = t * 8 + m := nI_clamp (by omega)
  unfold wpX_copyOut
  exact xm_cell ⟨v1, nm_r (e' := upd dx (t * 8 + m) (nI p)) (by rw [c1]) (br_t rfl ⟨v1, nm_r (e' := upd tx (t * 8 + m) 4) (by rw [c1]) hp⟩)⟩
theorem xm_co3 {post : SX → Prop} (ht : t < 4) (hm : m < 8) (h16 : p < 16) (hv : tx (t * 8 + m) ||| 1 = v) (hp : post (nI T, nI P, nI N, nI Q, dc, nI al, ic, upd tx (t * 8 + m) v, upd dx (t * 8 + m) (nI p), upd st p 1, S, O, ar, lx, h, mi, mk, mp, wl, rc)) : wpX_copyOut post (nI T, nI P, nI N, nI Q, dc, nI al, ic, tx, dx, st, S, O, ar, lx, h, mi, mk, mp, wl, rc) (nI t) (nI (m + 1)) 3 (nI p) := by
  have v1 : vp_in (nI (t * 8 + m)) 32 := vp_in_nI (by omega) (by omega)
  have c1 : (nI (t * 8 + m)).toNatClampNeg = t * 8 + m := nI_clamp (by omega)
  have v2 : vp_in (nI p) 16 := vp_in_nI h16 (by omega)
  have c2 : (nI p).toNatClampNeg = p := nI_clamp (by omega)
  unfold wpX_copyOut
  exact xm_cell ⟨v1, nm_r (e' := upd dx (t * 8 + m) (nI p)) (by rw [c1]) (br_f (by decide) (br_t rfl ⟨v1, v1, nm_r (e' := upd tx (t * 8 + m) v) (by rw [c1, hv]) ⟨v2, nm_r (e' := upd st p 1) (by rw [c2]) hp⟩⟩))⟩
theorem ym_co1a {post : Int32 → SY → Prop} {S' ar' qi' qk' qp' ly' : Nat → Int32} {ic' : Int32} (ht : t < 4) (hm : m < N) (hN : N ≤ 8) (h1 : p < P) (hP : P ≤ 16) (hl : mr_lv st p) (hr : mr_lst (mr_rs ty dy t p) N (m + 1)) (h0 : ¬ ty (t * 9 + (m + 1)) &&& 2 = 0) (hv : ty (t * 9 + (m + 1)) ||| 2 = ty (t * 9 + (m + 1))) (hX : ∀ q : SY → Prop, q (nI T, nI P, nI N, nI Q, nI al, ic', r0, r1, r2, r3, ty, dy, st, S', O, ar', qi', qk', qp', ly', wl) → wpY_decS q (nI T, nI P, nI N, nI Q, nI al, ic, r0, r1, r2, r3, ty, dy, st, S, O, ar, qi, qk, qp, ly, wl) (nI p)) (hp : post (nI (m + 1)) (nI T, nI P, nI N, nI Q, nI al, ic', r0, r1, r2, r3, ty, dy, st, S', O, ar', qi', qk', qp', ly', wl)) : wpY_copyout post (nI T, nI P, nI N, nI Q, nI al, ic, r0, r1, r2, r3, ty, dy, st, S, O, ar, qi, qk, qp, ly, wl) (nI t) 1 (nI p) := by
  have v1 := mr_yv (t := t) (n := m + 1) ht (by omega)
  have c1 := mr_ycl (t := t) (n := m + 1) ht (by omega)
  unfold wpY_copyout
  refine br_t rfl (ym_live1 h1 hP hl (br_f mr_10 ?_))
  refine ym_rs ht hN hr (br_f (nI_ne0 (by omega) (by omega)) ⟨v1, br_f (by rw [c1]; exact h0) ?_⟩)
  refine hX _ ?_
  exact ⟨v1, v1, nm_r (e' := ty) (by rw [c1, hv, mr_ui rfl]) hp⟩
theorem ym_co1b {post : Int32 → SY → Prop} (ht : t < 4) (hm : m < N) (hN : N ≤ 8) (h1 : p < P) (hP : P ≤ 16) (hl : mr_lv st p) (hr : mr_lst (mr_rs ty dy t p) N (m + 1)) (h0 : ty (t * 9 + (m + 1)) &&& 2 = 0) (hv : ty (t * 9 + (m + 1)) ||| 2 = v) (hd : dy (t * 9 + (m + 1)) = nI p) (hp : post (nI (m + 1)) (nI T, nI P, nI N, nI Q, nI al, ic, r0, r1, r2, r3, upd ty (t * 9 + (m + 1)) v, upd dy (t * 9 + (m + 1)) (nI p), st, S, O, ar, qi, qk, qp, ly, wl)) : wpY_copyout post (nI T, nI P, nI N, nI Q, nI al, ic, r0, r1, r2, r3, ty, dy, st, S, O, ar, qi, qk, qp, ly, wl) (nI t) 1 (nI p) := by
  have v1 := mr_yv (t := t) (n := m + 1) ht (by omega)
  have c1 := mr_ycl (t := t) (n := m + 1) ht (by omega)
  rw [mr_ui hd] at hp
  unfold wpY_copyout
  refine br_t rfl (ym_live1 h1 hP hl (br_f mr_10 ?_))
  refine ym_rs ht hN hr (br_f (nI_ne0 (by omega) (by omega)) ⟨v1, br_t (by rw [c1]; exact h0) ?_⟩)
  exact ⟨v1, v1, nm_r (e' := upd ty (t * 9 + (m + 1)) v) (by rw [c1, hv]) hp⟩
theorem ym_co1c {post : Int32 → SY → Prop} (ht : t < 4) (hm : m < N) (hN : N ≤ 8) (h1 : p < P) (hP : P ≤ 16) (hl : mr_lv st p) (hr : mr_lst (mr_rs ty dy t p) N 0) (hr2 : mr_lst (fun n => ty (t * 9 + n) = 0) N (m + 1)) (hp : post (nI (m + 1)) (nI T, nI P, nI N, nI Q, nI al, ic, r0, r1, r2, r3, upd ty (t * 9 + (m + 1)) 2, upd dy (t * 9 + (m + 1)) (nI p), st, S, O, ar, qi, qk, qp, ly, wl)) : wpY_copyout post (nI T, nI P, nI N, nI Q, nI al, ic, r0, r1, r2, r3, ty, dy, st, S, O, ar, qi, qk, qp, ly, wl) (nI t) 1 (nI p) := by
  have v1 := mr_yv (t := t) (n := m + 1) ht (by omega)
  have c1 := mr_ycl (t := t) (n := m + 1) ht (by omega)
  unfold wpY_copyout
  refine br_t rfl (ym_live1 h1 hP hl (br_f mr_10 ?_))
  refine ym_rs ht hN hr (br_t nI_0 ?_)
  exact ym_lf ht hN hr2 (br_f (nI_ne0 (by omega) (by omega)) ⟨v1, nm_r (e' := upd ty (t * 9 + (m + 1)) 2) (by rw [c1]) ⟨v1, nm_r (e' := upd dy (t * 9 + (m + 1)) (nI p)) (by rw [c1]) hp⟩⟩)
theorem ym_co2 {post : Int32 → SY → Prop} (ht : t < 4) (hm : m < N) (hN : N ≤ 8) (h1 : p < P) (hP : P ≤ 16) (hl : mr_lv st p) (hr2 : mr_lst (fun n => ty (t * 9 + n) = 0) N (m + 1)) (hp : post (nI (m + 1)) (nI T, nI P, nI N, nI Q, nI al, ic, r0, r1, r2, r3, upd ty (t * 9 + (m + 1)) 4, upd dy (t * 9 + (m + 1)) (nI p), st, S, O, ar, qi, qk, qp, ly, wl)) : wpY_copyout post (nI T, nI P, nI N, nI Q, nI al, ic, r0, r1, r2, r3, ty, dy, st, S, O, ar, qi, qk, qp, ly, wl) (nI t) 2 (nI p) := by
  have v1 := mr_yv (t := t) (n := m + 1) ht (by omega)
  have c1 := mr_ycl (t := t) (n := m + 1) ht (by omega)
  unfold wpY_copyout
  refine br_f (by decide) (br_t rfl (ym_live1 h1 hP hl (br_f mr_10 ?_)))
  exact ym_lf ht hN hr2 (br_f (nI_ne0 (by omega) (by omega)) ⟨v1, nm_r (e' := upd ty (t * 9 + (m + 1)) 4) (by rw [c1]) ⟨v1, nm_r (e' := upd dy (t * 9 + (m + 1)) (nI p)) (by rw [c1]) hp⟩⟩)
theorem ym_co3a {post : Int32 → SY → Prop} (ht : t < 4) (hm : m < N) (hN : N ≤ 8) (h1 : p < P) (hP : P ≤ 16) (hk : ∀ c, c < 36 → mr_tok (ty c)) (hr : mr_lst (mr_fs ty dy t p) N (m + 1)) (hd : dy (t * 9 + (m + 1)) = nI p) (hp : post (nI (m + 1)) (nI T, nI P, nI N, nI Q, nI al, ic, r0, r1, r2, r3, upd ty (t * 9 + (m + 1)) 3, upd dy (t * 9 + (m + 1)) (nI p), upd st p 1, S, O, ar, qi, qk, qp, ly, wl)) : wpY_copyout post (nI T, nI P, nI N, nI Q, nI al, ic, r0, r1, r2, r3, ty, dy, st, S, O, ar, qi, qk, qp, ly, wl) (nI t) 3 (nI p) := by
  have v1 := mr_yv (t := t) (n := m + 1) ht (by omega)
  have c1 := mr_ycl (t := t) (n := m + 1) ht (by omega)
  have v2 : vp_in (nI p) 16 := vp_in_nI (by omega) (by omega)
  have c2 : (nI p).toNatClampNeg = p := nI_clamp (by omega)
  rw [mr_ui hd] at hp
  unfold wpY_copyout
  refine br_f (by decide) (br_f (by decide) (br_t rfl (br_f (nI_pos (by omega)) (br_t (nI_lt h1 (by omega)) ⟨v2, nm_r (e' := upd st p 1) (by rw [c2]) ?_⟩))))
  exact ym_fs ht hN hk hr (br_f (nI_ne0 (by omega) (by omega)) ⟨v1, nm_r (e' := upd ty (t * 9 + (m + 1)) 3) (by rw [c1]) hp⟩)
theorem ym_co3b {post : Int32 → SY → Prop} (ht : t < 4) (hm : m < N) (hN : N ≤ 8) (h1 : p < P) (hP : P ≤ 16) (hk : ∀ c, c < 36 → mr_tok (ty c)) (hr : mr_lst (mr_fs ty dy t p) N 0) (hr2 : mr_lst (fun n => ty (t * 9 + n) = 0) N (m + 1)) (hp : post (nI (m + 1)) (nI T, nI P, nI N, nI Q, nI al, ic, r0, r1, r2, r3, upd ty (t * 9 + (m + 1)) 1, upd dy (t * 9 + (m + 1)) (nI p), upd st p 1, S, O, ar, qi, qk, qp, ly, wl)) : wpY_copyout post (nI T, nI P, nI N, nI Q, nI al, ic, r0, r1, r2, r3, ty, dy, st, S, O, ar, qi, qk, qp, ly, wl) (nI t) 3 (nI p) := by
  have v1 := mr_yv (t := t) (n := m + 1) ht (by omega)
  have c1 := mr_ycl (t := t) (n := m + 1) ht (by omega)
  have v2 : vp_in (nI p) 16 := vp_in_nI (by omega) (by omega)
  have c2 : (nI p).toNatClampNeg = p := nI_clamp (by omega)
  unfold wpY_copyout
  refine br_f (by decide) (br_f (by decide) (br_t rfl (br_f (nI_pos (by omega)) (br_t (nI_lt h1 (by omega)) ⟨v2, nm_r (e' := upd st p 1) (by rw [c2]) ?_⟩))))
  refine ym_fs ht hN hk hr (br_t nI_0 ?_)
  exact ym_lf ht hN hr2 (br_f (nI_ne0 (by omega) (by omega)) ⟨v1, nm_r (e' := upd ty (t * 9 + (m + 1)) 1) (by rw [c1]) ⟨v1, nm_r (e' := upd dy (t * 9 + (m + 1)) (nI p)) (by rw [c1]) hp⟩⟩)
/-! does the copyout need a new name -/
theorem ym_nn1 {post : Int32 → Prop} {r : Nat} (ht : t < 4) (hN : N ≤ 8) (h1 : p < P) (hP : P ≤ 16) (hl : mr_lv st p) (hr : mr_lst (mr_rs ty dy t p) N r) (hp : post (if r = 0 then 1 else 0)) : wpY_needsNew post (nI T, nI P, nI N, nI Q, nI al, ic, r0, r1, r2, r3, ty, dy, st, S, O, ar, qi, qk, qp, ly, wl) (nI t) 1 (nI p) := by
  unfold wpY_needsNew
  refine br_t rfl (ym_live1 h1 hP hl (br_f mr_10 ?_))
  refine ym_rs ht hN hr ?_
  by_cases z : r = 0
  · rw [if_pos z] at hp
    exact br_t (by rw [z]; exact nI_0) hp
  · rw [if_neg z] at hp
    have l1 : r ≤ N := by
      rcases hr with a | a
      · omega
      · omega
    exact br_f (nI_ne0 (by omega) (by omega)) hp
theorem ym_nn2 {post : Int32 → Prop} {y : Int32} (h1 : p < P) (hP : P ≤ 16) (hl : mr_lv st p) (hp : post 1) : wpY_needsNew post (nI T, nI P, nI N, nI Q, nI al, ic, r0, r1, r2, r3, ty, dy, st, S, O, ar, qi, qk, qp, ly, wl) y 2 (nI p) := by
  unfold wpY_needsNew
  exact br_f (by decide) (br_t rfl (ym_live1 h1 hP hl ⟨rfl, hp⟩))
theorem ym_nnd {post : Int32 → Prop} {y : Int32} (h1 : p < 16) (hP : P ≤ 16) (hl : ¬ mr_lv st p) (hk : k = 1 ∨ k = 2) (hp : post 0) : wpY_needsNew post (nI T, nI P, nI N, nI Q, nI al, ic, r0, r1, r2, r3, ty, dy, st, S, O, ar, qi, qk, qp, ly, wl) y k (nI p) := by
  unfold wpY_needsNew
  rcases hk with rfl | rfl
  · exact br_t rfl (ym_live0 h1 hP hl (br_t rfl hp))
  · exact br_f (by decide) (br_t rfl (ym_live0 h1 hP hl ⟨rfl, hp⟩))
theorem ym_nn3 {post : Int32 → Prop} {r : Nat} (ht : t < 4) (hN : N ≤ 8) (hk : ∀ c, c < 36 → mr_tok (ty c)) (hr : mr_lst (mr_fs ty dy t p) N r) (hp : post (if r = 0 then 1 else 0)) : wpY_needsNew post (nI T, nI P, nI N, nI Q, nI al, ic, r0, r1, r2, r3, ty, dy, st, S, O, ar, qi, qk, qp, ly, wl) (nI t) 3 (nI p) := by
  unfold wpY_needsNew
  refine br_f (by decide) (br_f (by decide) (br_t rfl ?_))
  refine ym_fs ht hN hk hr ?_
  by_cases z : r = 0
  · rw [if_pos z] at hp
    exact br_t (by rw [z]; exact nI_0) hp
  · rw [if_neg z] at hp
    have l1 : r ≤ N := by
      rcases hr with a | a
      · omega
      · omega
    exact br_f (nI_ne0 (by omega) (by omega)) hp
theorem ym_nn0 {post : Int32 → Prop} {y y2 : Int32} (hk : k = 0 ∨ k = 4) (hp : post 0) : wpY_needsNew post (nI T, nI P, nI N, nI Q, nI al, ic, r0, r1, r2, r3, ty, dy, st, S, O, ar, qi, qk, qp, ly, wl) y k y2 := by
  unfold wpY_needsNew
  rcases hk with rfl | rfl
  · exact br_f (by decide) (br_f (by decide) (br_f (by decide) hp))
  · exact br_f (by decide) (br_f (by decide) (br_f (by decide) hp))
/-! a send right is copied out, on both sides -/
theorem mr_cp1 {r1 r2 : Nat} (hR : mr_R W e off T P N Q al l tx dx st S O ar lx h mi mk mp ty dy qi qk qp ly) (he : e < 16 → ¬ mr_lv st e) (ht : t < T) (hp : p < al) (hl : mr_lv st p) (hr : mr_lst (mr_rs ty dy t p) N r1) (hr2 : mr_lst (fun n => ty (t * 9 + n) = 0) N r2) (hm : (if r1 = 0 then r2 else r1) = m + 1) (ic : Int32) : ∃ (tx' dx' ty' dy' S' ar' : Nat → Int32) (ic' : Int32) (l' : Nat → Nat) (lx' mi' mk' mp' qi' qk' qp' ly' : Nat → Int32), mr_R W e off T P N Q al l' tx' dx' st S' O ar' lx' h mi' mk' mp' ty' dy' qi' qk' qp' ly' ∧ (∀ (dc : Int32) (wl rc : Nat → Int32) (post : SX → Prop), post (nI T, nI P, nI N, nI Q, dc, nI al, ic', tx', dx', st, S', O, ar', lx', h, mi', mk', mp', wl, rc) → wpX_copyOut post (nI T, nI P, nI N, nI Q, dc, nI al, ic, tx, dx, st, S, O, ar, lx, h, mi, mk, mp, wl, rc) (nI t) (nI (m + 1)) 1 (nI p)) ∧ (∀ (r0 r1 r2 r3 : Int32) (wl : Nat → Int32) (post : Int32 → SY → Prop), post (nI (m + 1)) (nI T, nI P, nI N, nI Q, nI al, ic', r0, r1, r2, r3, ty', dy', st, S', O, ar', qi', qk', qp', ly', wl) → wpY_copyout post (nI T, nI P, nI N, nI Q, nI al, ic, r0, r1, r2, r3, ty, dy, st, S, O, ar, qi, qk, qp, ly, wl) (nI t) 1 (nI p)) := by
  obtain ⟨b1, b2, b3, b4, b5, b6⟩ := mr_Rb hR
  have hI := hR.2.2.2.2.2.2.2.2
  by_cases z : r1 = 0
  · rw [if_pos z] at hm
    rw [z] at hr
    rw [hm] at hr2
    have hmN : m < N := by
      rcases hr2 with a | a
      · omega
      · omega
    have h0 : ty (t * 9 + (m + 1)) = 0 := by
      rcases hr2 with a | a
      · omega
      · exact a.2.2.1
    have nn := hR.2.1 t m (by omega) (by omega)
    have x0 := nn.1.trans h0
    exact ⟨_, _, _, _, _, _, _, _, _, _, _, _, _, _, _, _, mr_Rsnd (v := 2) hR hp hl ht hmN (Or.inl ⟨h0, rfl⟩), fun dc wl rc post hq => xm_co1b (by omega) (by omega) (by rw [x0]; decide) (by rw [x0]; decide) hq, fun r0 r1 r2 r3 wl post hq => ym_co1c (by omega) hmN b4 (by omega) b3 hl hr hr2 hq⟩
  · rw [if_neg z] at hm
    rw [hm] at hr
    have hmN : m < N := by
      rcases hr with a | a
      · omega
      · omega
    have h0 : mr_rs ty dy t p (m + 1) := by
      rcases hr with a | a
      · omega
      · exact a.2.2.1
    have nn := hR.2.1 t m (by omega) (by omega)
    have xd := nn.2.trans h0.2
    have K : (ty (t * 9 + (m + 1)) = 2 ∨ ty (t * 9 + (m + 1)) = 3) → ¬ ty (t * 9 + (m + 1)) &&& 2 = 0 ∧ ty (t * 9 + (m + 1)) ||| 2 = ty (t * 9 + (m + 1)) := by
      intro a
      rcases a with a | a
      · rw [a]; decide
      · rw [a]; decide
    by_cases y1 : ty (t * 9 + (m + 1)) = 1
    · have x1 := nn.1.trans y1
      exact ⟨_, _, _, _, _, _, _, _, _, _, _, _, _, _, _, _, mr_Rsnd (v := 3) hR hp hl ht hmN (Or.inr ⟨y1, h0.2, rfl⟩), fun dc wl rc post hq => xm_co1b (by omega) (by omega) (by rw [x1]; decide) (by rw [x1]; decide) hq, fun r0 r1 r2 r3 wl post hq => ym_co1b (by omega) hmN b4 (by omega) b3 hl hr (by rw [y1]; decide) (by rw [y1]; decide) h0.2 hq⟩
    · obtain ⟨k1, k2⟩ := K (h0.1.resolve_left y1)
      obtain ⟨S', ar', ic', l', lx', mi', mk', mp', qi', qk', qp', ly', r, _, dX, dY⟩ := mr_dec hR hp he ic
      exact ⟨_, _, _, _, _, _, _, _, _, _, _, _, _, _, _, _, r, fun dc wl rc post hq => xm_co1a (by omega) (by omega) (by rw [nn.1]; exact k1) xd (dX dc wl rc) hq, fun r0 r1 r2 r3 wl post hq => ym_co1a (by omega) hmN b4 (by omega) b3 hl hr k1 k2 (dY r0 r1 r2 r3 wl) hq⟩
end
