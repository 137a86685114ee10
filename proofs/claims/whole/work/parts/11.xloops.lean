/-! the component's searches -/
/-- the name has the receive or a send right for port p -/
def mr_rs (ty dy : Nat → Int32) (t p n : Nat) : Prop := (ty (t * 9 + n) = 1 ∨ ty (t * 9 + n) = 2 ∨ ty (t * 9 + n) = 3) ∧ dy (t * 9 + n) = nI p
section
variable {W W' : Nat → Prop} {e off T P N Q al p n t m x c D : Nat} {l : Nat → Nat} {dc ic r0 r1 r2 r3 : Int32} {tx dx st S O ar lx h mi mk mp wl rc ty dy qi qk qp ly : Nat → Int32} {v w i k z : Int32}
theorem xm_lfL {post : Int32 → Prop} {r : Nat} (ht : t < 4) (hN : N ≤ 8) (hNN : mr_NN tx dx ty dy) (hr : mr_lst (fun n => ty (t * 9 + n) = 0) N r) (hp : post (nI r)) : ∀ d i, i + d = N → (∀ n, 1 ≤ n → n ≤ i → ¬ ty (t * 9 + n) = 0) → wX_leastFreeName_2 post (nI t) (nI T) (nI P) (nI N) (nI Q) dc (nI al) ic tx dx st S O ar lx h mi mk mp wl rc (d + 1) (nI (i + 1)) := by
  intro d
  induction d with
  | zero =>
    intro i hi hn
    have r0 : r = 0 := mr_lst0 hr (fun n a b => hn n a (by omega))
    rw [r0] at hp
    exact br_t (nI_lt (by omega) (by omega)) hp
  | succ d ih =>
    intro i hi hn
    have c1 : (nI (t * 8 + i)).toNatClampNeg = t * 8 + i := nI_clamp (by omega)
    have e1 := (hNN t i ht (by omega)).1
    refine br_f (nI_nlt (by omega) (by omega)) (xm_cell ⟨vp_in_nI (by omega) (by omega), ?_⟩)
    by_cases z : ty (t * 9 + (i + 1)) = 0
    · rw [mr_lst1 hr (by omega) hn z] at hp
      exact br_t (by rw [c1, e1]; exact z) hp
    · exact br_f (by rw [c1, e1]; exact z) (nm_r (nI_1 (i + 1)) (ih (i + 1) (by omega) (mr_lst2 (pr := fun n => ty (t * 9 + n) = 0) hn z)))
theorem xm_lf {post : Int32 → Prop} {r : Nat} (ht : t < 4) (hN : N ≤ 8) (hNN : mr_NN tx dx ty dy) (hr : mr_lst (fun n => ty (t * 9 + n) = 0) N r) (hp : post (nI r)) : wpX_leastFreeName post (nI T, nI P, nI N, nI Q, dc, nI al, ic, tx, dx, st, S, O, ar, lx, h, mi, mk, mp, wl, rc) (nI t) :=
  ⟨N + 1, xm_lfL ht hN hNN hr hp N 0 (by omega) (fun n a b => absurd a (by omega))⟩
theorem xm_nwL {post : Int32 → Prop} {r : Nat} (ht : t < 4) (hN : N ≤ 8) (hNN : mr_NN tx dx ty dy) (hk : ∀ c, c < 36 → mr_tok (ty c)) (hr : mr_lst (mr_rs ty dy t p) N r) (hp : post (nI r)) : ∀ d i, i + d = N → (∀ n, 1 ≤ n → n ≤ i → ¬ mr_rs ty dy t p n) → wX_nameWithReceiveOrSend_2 post (nI t) (nI p) (nI T) (nI P) (nI N) (nI Q) dc (nI al) ic tx dx st S O ar lx h mi mk mp wl rc (d + 1) (nI (i + 1)) := by
  intro d
  induction d with
  | zero =>
    intro i hi hn
    have r0 : r = 0 := mr_lst0 hr (fun n a b => hn n a (by omega))
    rw [r0] at hp
    exact br_t (nI_lt (by omega) (by omega)) hp
  | succ d ih =>
    intro i hi hn
    have c1 : (nI (t * 8 + i)).toNatClampNeg = t * 8 + i := nI_clamp (by omega)
    have e1 := hNN t i ht (by omega)
    have tk := hk (t * 9 + (i + 1)) (by omega)
    have vi : vp_in (nI (t * 8 + i)) 32 := vp_in_nI (by omega) (by omega)
    have nx : ¬ mr_rs ty dy t p (i + 1) → ∀ y, y = nI (i + 1) + 1 → wX_nameWithReceiveOrSend_2 post (nI t) (nI p) (nI T) (nI P) (nI N) (nI Q) dc (nI al) ic tx dx st S O ar lx h mi mk mp wl rc (d + 1) y := fun z => nm_r (nI_1 (i + 1)) (ih (i + 1) (by omega) (mr_lst2 hn z))
    refine br_f (nI_nlt (by omega) (by omega)) (xm_cell ⟨vi, ?_⟩)
    by_cases z1 : dy (t * 9 + (i + 1)) = nI p
    · refine br_t (by rw [c1, e1.2]; exact z1) ⟨vi, ?_⟩
      by_cases z2 : ty (t * 9 + (i + 1)) &&& 3 = 0
      · exact br_t (by rw [c1, e1.1]; exact z2) (nx (fun q => (mr_a3 tk).mp z2 q.1))
      · have q : mr_rs ty dy t p (i + 1) := ⟨Classical.byContradiction (fun a => z2 ((mr_a3 tk).mpr a)), z1⟩
        rw [mr_lst1 hr (by omega) hn q] at hp
        exact br_f (by rw [c1, e1.1]; exact z2) hp
    · exact br_f (by rw [c1, e1.2]; exact z1) (nx (fun q => z1 q.2))
theorem xm_nw {post : Int32 → Prop} {r : Nat} (ht : t < 4) (hN : N ≤ 8) (hNN : mr_NN tx dx ty dy) (hk : ∀ c, c < 36 → mr_tok (ty c)) (hr : mr_lst (mr_rs ty dy t p) N r) (hp : post (nI r)) : wpX_nameWithReceiveOrSend post (nI T, nI P, nI N, nI Q, dc, nI al, ic, tx, dx, st, S, O, ar, lx, h, mi, mk, mp, wl, rc) (nI t) (nI p) :=
  ⟨N + 1, xm_nwL ht hN hNN hk hr hp N 0 (by omega) (fun n a b => absurd a (by omega))⟩
/-- the name of a copyout that isn't of a send-once right: r1, or r2 if r1 is 0 -/
theorem xm_con {post : Int32 → Prop} {r1 r2 : Nat} (ht : t < 4) (hN : N ≤ 8) (hNN : mr_NN tx dx ty dy) (hk : ∀ c, c < 36 → mr_tok (ty c)) (hr : mr_lst (mr_rs ty dy t p) N r1) (hr2 : mr_lst (fun n => ty (t * 9 + n) = 0) N r2) (h2 : ¬ k = 2) (hp : post (nI (if r1 = 0 then r2 else r1))) : wpX_copyoutName post (nI T, nI P, nI N, nI Q, dc, nI al, ic, tx, dx, st, S, O, ar, lx, h, mi, mk, mp, wl, rc) (nI t) k (nI p) := by
  unfold wpX_copyoutName
  refine br_f h2 (xm_nw ht hN hNN hk hr ?_)
  by_cases z : r1 = 0
  · rw [if_pos z] at hp
    refine br_t (by rw [z]; exact nI_0) ?_
    unfold wX_copyoutName_21
    exact xm_lf ht hN hNN hr2 hp
  · rw [if_neg z] at hp
    have l1 : r1 ≤ N := by
      rcases hr with a | a
      · omega
      · omega
    exact br_f (nI_ne0 (by omega) (by omega)) hp
theorem xm_cso {post : Int32 → Prop} {r2 : Nat} {y : Int32} (ht : t < 4) (hN : N ≤ 8) (hNN : mr_NN tx dx ty dy) (hr2 : mr_lst (fun n => ty (t * 9 + n) = 0) N r2) (hp : post (nI r2)) : wpX_copyoutName post (nI T, nI P, nI N, nI Q, dc, nI al, ic, tx, dx, st, S, O, ar, lx, h, mi, mk, mp, wl, rc) (nI t) 2 y := by
  unfold wpX_copyoutName
  refine br_t rfl ?_
  unfold wX_copyoutName_21
  exact xm_lf ht hN hNN hr2 hp
/-! a notice in the queue -/
theorem mr_9 {p : Nat} : nI p * 9 = nI (p * 9) := by
  rw [show (9 : Int32) = nI 9 from rfl, pk_mul]
theorem xm_hnL {post : Int32 → Prop} (hp : p < 16) (h9 : n ≤ 9) (h1 : (∃ i, i < n ∧ mk (p * 9 + i) = 4) → post 1) (h0 : (∀ i, i < n → ¬ mk (p * 9 + i) = 4) → post 0) : ∀ d i, i + d = n → (∀ j, j < i → ¬ mk (p * 9 + j) = 4) → wX_holdsNotice_15 post (nI (p * 9)) (nI n) (nI T) (nI P) (nI N) (nI Q) dc (nI al) ic tx dx st S O ar lx h mi mk mp wl rc (d + 1) (nI i) := by
  intro d
  induction d with
  | zero =>
    intro i hi hn
    exact br_t (nI_le (by omega) (by omega)) (h0 (fun j hj => hn j (by omega)))
  | succ d ih =>
    intro i hi hn
    have e1 : nI (p * 9) + nI i = nI (p * 9 + i) := nI_add _ _
    have v1 : vp_in (nI (p * 9) + nI i) 144 := by
      rw [e1]
      exact vp_in_nI (by omega) (by omega)
    have c1 : (nI (p * 9) + nI i).toNatClampNeg = p * 9 + i := by
      rw [e1]
      exact nI_clamp (by omega)
    refine br_f (nI_ge (by omega) (by omega)) ⟨v1, ?_⟩
    by_cases z : mk (p * 9 + i) = 4
    · exact br_t (by rw [c1]; exact z) (h1 ⟨i, by omega, z⟩)
    · refine br_f (by rw [c1]; exact z) (nm_r (nI_1 i) (ih (i + 1) (by omega) (fun j hj => ?_)))
      by_cases q : j = i
      · rw [q]; exact z
      · exact hn j (by omega)
theorem xm_hn {post : Int32 → Prop} (hp : p < 16) (h9 : n ≤ 9) (hl : lx p = nI n) (h1 : (∃ i, i < n ∧ mk (p * 9 + i) = 4) → post 1) (h0 : (∀ i, i < n → ¬ mk (p * 9 + i) = 4) → post 0) : wpX_holdsNotice post (nI T, nI P, nI N, nI Q, dc, nI al, ic, tx, dx, st, S, O, ar, lx, h, mi, mk, mp, wl, rc) (nI p) := by
  unfold wpX_holdsNotice
  refine nm_r mr_9 ⟨vp_in_nI hp (by omega), nm_r (e' := nI n) (by rw [nI_clamp (by omega)]; exact hl) ⟨n + 1, ?_⟩⟩
  exact xm_hnL hp h9 h1 h0 n 0 (by omega) (fun j hj => absurd hj (by omega))
theorem xm_oc {post : Int32 → Prop} (hp : p < 16) (h9 : n ≤ 9) (hl : lx p = nI n) (ho : n ≤ mr_oc mk (p * 9) n + 1) (hq : post (nI (mr_oc mk (p * 9) n))) : wpX_ordinaryCount post (nI T, nI P, nI N, nI Q, dc, nI al, ic, tx, dx, st, S, O, ar, lx, h, mi, mk, mp, wl, rc) (nI p) := by
  have v1 : vp_in (nI p) 16 := vp_in_nI hp (by omega)
  have c1 : (nI p).toNatClampNeg = p := nI_clamp (by omega)
  unfold wpX_ordinaryCount
  refine xm_hn hp h9 hl (fun a => br_f mr_10 ⟨v1, ?_⟩) (fun a => br_t rfl ⟨v1, ?_⟩)
  · obtain ⟨i, hi, h4⟩ := a
    have o := mr_ocx hi h4
    rw [c1, hl, show n = (n - 1) + 1 from by omega, nI_pred, show n - 1 = mr_oc mk (p * 9) n from by omega]
    exact hq
  · rw [c1, hl]
    rw [mr_ocn a] at hq
    exact hq
/-! the cycles -/
theorem xm_cyL {post : Int32 → Prop} (hc : c < 16) : ∀ r D, mr_rc st h r D → ∀ j, j + r ≤ 15 → (mr_on h c r D → post 1) → (¬ mr_on h c r D → post 0) → ∀ n, r < n → wX_makesCycle_5 post (nI c) (nI T) (nI P) (nI N) (nI Q) dc (nI al) ic tx dx st S O ar lx h mi mk mp wl rc n (nI D) (nI j) := by
  intro r
  induction r with
  | zero =>
    intro D hD j hj h1 h0 n hn
    cases n with
    | zero => exact absurd hn (by omega)
    | succ n =>
      have D16 := mr_rc16 hD
      have c1 : (nI D).toNatClampNeg = D := nI_clamp (by omega)
      refine br_f (nI_ge (b := 16) (by omega) (by omega)) ?_
      by_cases z : D = c
      · exact br_t (by rw [z]) (h1 z)
      · exact br_f (fun q => z (mr_inj q (by omega) (by omega))) ⟨vp_in_nI D16 (by omega), br_f (by rw [c1]; exact hD.2) (h0 z)⟩
  | succ r ih =>
    intro D hD j hj h1 h0 n hn
    cases n with
    | zero => exact absurd hn (by omega)
    | succ n =>
      have D16 := mr_rc16 hD
      have c1 : (nI D).toNatClampNeg = D := nI_clamp (by omega)
      obtain ⟨a1, a2, q, a3, a4⟩ := hD
      refine br_f (nI_ge (b := 16) (by omega) (by omega)) ?_
      by_cases z : D = c
      · exact br_t (by rw [z]) (h1 (Or.inl z))
      · have on := mr_onN (c := c) (r := r) z a3 (mr_rc16 a4)
        refine br_f (fun q => z (mr_inj q (by omega) (by omega))) ⟨vp_in_nI D16 (by omega), br_t (by rw [c1]; exact a2) ⟨vp_in_nI D16 (by omega), nm_r (e' := nI q) (by rw [c1]; exact a3) (nm_r (nI_1 j) ?_)⟩⟩
        exact ih q a4 (j + 1) (by omega) (fun g => h1 (on.mpr g)) (fun g => h0 (fun f => g (on.mp f))) n (by omega)
theorem xm_cy {post : Int32 → Prop} {r : Nat} (hc : c < 16) (hD : mr_rc st h r D) (h1 : mr_on h c r D → post 1) (h0 : ¬ mr_on h c r D → post 0) : wpX_makesCycle post (nI T, nI P, nI N, nI Q, dc, nI al, ic, tx, dx, st, S, O, ar, lx, h, mi, mk, mp, wl, rc) (nI c) (nI D) :=
  ⟨r + 1, xm_cyL hc r D hD 0 (by have := mr_rcb hD; omega) h1 h0 (r + 1) (by omega)⟩
end
