/-! the reference's searches -/
/-- the name has a send right for port p -/
def mr_fs (ty dy : Nat → Int32) (t p n : Nat) : Prop := (ty (t * 9 + n) = 2 ∨ ty (t * 9 + n) = 3) ∧ dy (t * 9 + n) = nI p
section
variable {W W' : Nat → Prop} {e off T P N Q al p n t m x c D : Nat} {l : Nat → Nat} {dc ic r0 r1 r2 r3 : Int32} {tx dx st S O ar lx h mi mk mp wl rc ty dy qi qk qp ly : Nat → Int32} {v w i k z : Int32}
theorem ym_lfL {post : Int32 → Prop} {r : Nat} (ht : t < 4) (hN : N ≤ 8) (hr : mr_lst (fun n => ty (t * 9 + n) = 0) N r) (hp : post (nI r)) : ∀ d i, i + d = N → (∀ n, 1 ≤ n → n ≤ i → ¬ ty (t * 9 + n) = 0) → wY_leastFree_2 post (nI t) (nI T) (nI P) (nI N) (nI Q) (nI al) ic r0 r1 r2 r3 ty dy st S O ar qi qk qp ly wl (d + 1) (nI (i + 1)) := by
  intro d
  induction d with
  | zero =>
    intro i hi hn
    have r0 : r = 0 := mr_lst0 hr (fun n a b => hn n a (by omega))
    rw [r0] at hp
    exact br_t (nI_lt (by omega) (by omega)) hp
  | succ d ih =>
    intro i hi hn
    have c1 := mr_ycl (t := t) (n := i + 1) ht (by omega)
    refine br_f (nI_nlt (by omega) (by omega)) ⟨mr_yv ht (by omega), ?_⟩
    by_cases z : ty (t * 9 + (i + 1)) = 0
    · rw [mr_lst1 hr (by omega) hn z] at hp
      exact br_t (by rw [c1]; exact z) hp
    · exact br_f (by rw [c1]; exact z) (nm_r (nI_1 (i + 1)) (ih (i + 1) (by omega) (mr_lst2 (pr := fun n => ty (t * 9 + n) = 0) hn z)))
theorem ym_lf {post : Int32 → Prop} {r : Nat} (ht : t < 4) (hN : N ≤ 8) (hr : mr_lst (fun n => ty (t * 9 + n) = 0) N r) (hp : post (nI r)) : wpY_leastFree post (nI T, nI P, nI N, nI Q, nI al, ic, r0, r1, r2, r3, ty, dy, st, S, O, ar, qi, qk, qp, ly, wl) (nI t) :=
  ⟨N + 1, ym_lfL ht hN hr hp N 0 (by omega) (fun n a b => absurd a (by omega))⟩
theorem ym_rsL {post : Int32 → Prop} {r : Nat} (ht : t < 4) (hN : N ≤ 8) (hr : mr_lst (mr_rs ty dy t p) N r) (hp : post (nI r)) : ∀ d i, i + d = N → (∀ n, 1 ≤ n → n ≤ i → ¬ mr_rs ty dy t p n) → wY_findRecvOrSend_2 post (nI t) (nI p) (nI T) (nI P) (nI N) (nI Q) (nI al) ic r0 r1 r2 r3 ty dy st S O ar qi qk qp ly wl (d + 1) (nI (i + 1)) := by
  intro d
  induction d with
  | zero =>
    intro i hi hn
    have r0 : r = 0 := mr_lst0 hr (fun n a b => hn n a (by omega))
    rw [r0] at hp
    exact br_t (nI_lt (by omega) (by omega)) hp
  | succ d ih =>
    intro i hi hn
    have c1 := mr_ycl (t := t) (n := i + 1) ht (by omega)
    have vi : vp_in (nI t * 9 + nI (i + 1)) 36 := mr_yv ht (by omega)
    have nx : ¬ mr_rs ty dy t p (i + 1) → ∀ y, y = nI (i + 1) + 1 → wY_findRecvOrSend_2 post (nI t) (nI p) (nI T) (nI P) (nI N) (nI Q) (nI al) ic r0 r1 r2 r3 ty dy st S O ar qi qk qp ly wl (d + 1) y := fun z => nm_r (nI_1 (i + 1)) (ih (i + 1) (by omega) (mr_lst2 hn z))
    have fd : (ty (t * 9 + (i + 1)) = 1 ∨ ty (t * 9 + (i + 1)) = 2 ∨ ty (t * 9 + (i + 1)) = 3) → wY_findRecvOrSend_41 post (wY_findRecvOrSend_2 post (nI t) (nI p) (nI T) (nI P) (nI N) (nI Q) (nI al) ic r0 r1 r2 r3 ty dy st S O ar qi qk qp ly wl (d + 1)) (nI t) (nI p) (nI (i + 1)) (nI T) (nI P) (nI N) (nI Q) (nI al) ic r0 r1 r2 r3 ty dy st S O ar qi qk qp ly wl := by
      intro q
      refine ⟨vi, ?_⟩
      by_cases z1 : dy (t * 9 + (i + 1)) = nI p
      · have q' : mr_rs ty dy t p (i + 1) := ⟨q, z1⟩
        rw [mr_lst1 hr (by omega) hn q'] at hp
        exact br_t (by rw [c1]; exact z1) hp
      · exact br_f (by rw [c1]; exact z1) (nx (fun q => z1 q.2))
    refine br_f (nI_nlt (by omega) (by omega)) ⟨vi, nm_r (e' := ty (t * 9 + (i + 1))) (by rw [c1]) ?_⟩
    by_cases z1 : ty (t * 9 + (i + 1)) = 1
    · exact br_t z1 (fd (Or.inl z1))
    · by_cases z2 : ty (t * 9 + (i + 1)) = 2
      · exact br_f z1 (br_t z2 (fd (Or.inr (Or.inl z2))))
      · by_cases z3 : ty (t * 9 + (i + 1)) = 3
        · exact br_f z1 (br_f z2 (br_t z3 (fd (Or.inr (Or.inr z3)))))
        · exact br_f z1 (br_f z2 (br_f z3 (nx (fun q => q.1.elim z1 (fun a => a.elim z2 z3)))))
theorem ym_rs {post : Int32 → Prop} {r : Nat} (ht : t < 4) (hN : N ≤ 8) (hr : mr_lst (mr_rs ty dy t p) N r) (hp : post (nI r)) : wpY_findRecvOrSend post (nI T, nI P, nI N, nI Q, nI al, ic, r0, r1, r2, r3, ty, dy, st, S, O, ar, qi, qk, qp, ly, wl) (nI t) (nI p) :=
  ⟨N + 1, ym_rsL ht hN hr hp N 0 (by omega) (fun n a b => absurd a (by omega))⟩
theorem ym_fsL {post : Int32 → Prop} {r : Nat} (ht : t < 4) (hN : N ≤ 8) (hk : ∀ c, c < 36 → mr_tok (ty c)) (hr : mr_lst (mr_fs ty dy t p) N r) (hp : post (nI r)) : ∀ d i, i + d = N → (∀ n, 1 ≤ n → n ≤ i → ¬ mr_fs ty dy t p n) → wY_findSend_2 post (nI t) (nI p) (nI T) (nI P) (nI N) (nI Q) (nI al) ic r0 r1 r2 r3 ty dy st S O ar qi qk qp ly wl (d + 1) (nI (i + 1)) := by
  intro d
  induction d with
  | zero =>
    intro i hi hn
    have r0 : r = 0 := mr_lst0 hr (fun n a b => hn n a (by omega))
    rw [r0] at hp
    exact br_t (nI_lt (by omega) (by omega)) hp
  | succ d ih =>
    intro i hi hn
    have c1 := mr_ycl (t := t) (n := i + 1) ht (by omega)
    have vi : vp_in (nI t * 9 + nI (i + 1)) 36 := mr_yv ht (by omega)
    have tk := hk (t * 9 + (i + 1)) (by omega)
    have nx : ¬ mr_fs ty dy t p (i + 1) → ∀ y, y = nI (i + 1) + 1 → wY_findSend_2 post (nI t) (nI p) (nI T) (nI P) (nI N) (nI Q) (nI al) ic r0 r1 r2 r3 ty dy st S O ar qi qk qp ly wl (d + 1) y := fun z => nm_r (nI_1 (i + 1)) (ih (i + 1) (by omega) (mr_lst2 hn z))
    refine br_f (nI_nlt (by omega) (by omega)) ⟨vi, ?_⟩
    by_cases z2 : ty (t * 9 + (i + 1)) &&& 2 = 0
    · exact br_t (by rw [c1]; exact z2) (nx (fun q => (mr_a2 tk).mp z2 q.1))
    · refine br_f (by rw [c1]; exact z2) ⟨vi, ?_⟩
      by_cases z1 : dy (t * 9 + (i + 1)) = nI p
      · have q : mr_fs ty dy t p (i + 1) := ⟨Classical.byContradiction (fun a => z2 ((mr_a2 tk).mpr a)), z1⟩
        rw [mr_lst1 hr (by omega) hn q] at hp
        exact br_t (by rw [c1]; exact z1) hp
      · exact br_f (by rw [c1]; exact z1) (nx (fun q => z1 q.2))
theorem ym_fs {post : Int32 → Prop} {r : Nat} (ht : t < 4) (hN : N ≤ 8) (hk : ∀ c, c < 36 → mr_tok (ty c)) (hr : mr_lst (mr_fs ty dy t p) N r) (hp : post (nI r)) : wpY_findSend post (nI T, nI P, nI N, nI Q, nI al, ic, r0, r1, r2, r3, ty, dy, st, S, O, ar, qi, qk, qp, ly, wl) (nI t) (nI p) :=
  ⟨N + 1, ym_fsL ht hN hk hr hp N 0 (by omega) (fun n a b => absurd a (by omega))⟩
/-! counts and notices -/
theorem mr_qv {p i : Nat} (hp : p < 16) (hi : i < 9) : vp_in (nI p * 9 + nI i) 144 := by
  rw [mr_yc]
  exact vp_in_nI (by omega) (by omega)
theorem mr_qc {p i : Nat} (hp : p < 16) (hi : i < 9) : (nI p * 9 + nI i).toNatClampNeg = p * 9 + i := by
  rw [mr_yc]
  exact nI_clamp (by omega)
theorem ym_ocL {post : Int32 → Prop} (hp : p < 16) (h9 : n ≤ 9) (hl : ly p = nI n) (hq : post (nI (mr_oc qk (p * 9) n))) : ∀ d i, i + d = n → wY_ordinaryCount_4 post (nI p) (nI T) (nI P) (nI N) (nI Q) (nI al) ic r0 r1 r2 r3 ty dy st S O ar qi qk qp ly wl (d + 1) (nI (mr_oc qk (p * 9) i)) (nI i) := by
  intro d
  induction d with
  | zero =>
    intro i hi
    have e : i = n := by omega
    rw [e]
    exact ⟨vp_in_nI hp (by omega), br_t (by rw [nI_clamp (by omega), hl]; exact nI_le (Nat.le_refl _) (by omega)) hq⟩
  | succ d ih =>
    intro i hi
    have r := ih (i + 1) (by omega)
    have c1 := mr_qc (p := p) (i := i) hp (by omega)
    refine ⟨vp_in_nI hp (by omega), br_f (by rw [nI_clamp (by omega), hl]; exact nI_ge (by omega) (by omega)) (br_f (nI_ge (b := 9) (by omega) (by omega)) ⟨mr_qv hp (by omega), ?_⟩)⟩
    rw [mr_ocs] at r
    by_cases z : qk (p * 9 + i) = 4
    · rw [if_pos z] at r
      exact br_t (by rw [c1]; exact z) (nm_r (nI_1 i) r)
    · rw [if_neg z] at r
      exact br_f (by rw [c1]; exact z) (nm_r (nI_1 _) (nm_r (nI_1 i) r))
theorem ym_oc {post : Int32 → Prop} (hp : p < 16) (h9 : n ≤ 9) (hl : ly p = nI n) (hq : post (nI (mr_oc qk (p * 9) n))) : wpY_ordinaryCount post (nI T, nI P, nI N, nI Q, nI al, ic, r0, r1, r2, r3, ty, dy, st, S, O, ar, qi, qk, qp, ly, wl) (nI p) :=
  ⟨n + 1, ym_ocL hp h9 hl hq n 0 (by omega)⟩
theorem ym_hnL {post : Int32 → Prop} (hp : p < 16) (h9 : n ≤ 9) (hl : ly p = nI n) (h1 : (∃ i, i < n ∧ qk (p * 9 + i) = 4) → post 1) (h0 : (∀ i, i < n → ¬ qk (p * 9 + i) = 4) → post 0) : ∀ d i, i + d = n → (∀ j, j < i → ¬ qk (p * 9 + j) = 4) → wY_hasNotice_2 post (nI p) (nI T) (nI P) (nI N) (nI Q) (nI al) ic r0 r1 r2 r3 ty dy st S O ar qi qk qp ly wl (d + 1) (nI i) := by
  intro d
  induction d with
  | zero =>
    intro i hi hn
    have e : i = n := by omega
    rw [e]
    exact ⟨vp_in_nI hp (by omega), br_t (by rw [nI_clamp (by omega), hl]; exact nI_le (Nat.le_refl _) (by omega)) (h0 (fun j hj => hn j (by omega)))⟩
  | succ d ih =>
    intro i hi hn
    have c1 := mr_qc (p := p) (i := i) hp (by omega)
    refine ⟨vp_in_nI hp (by omega), br_f (by rw [nI_clamp (by omega), hl]; exact nI_ge (by omega) (by omega)) (br_f (nI_ge (b := 9) (by omega) (by omega)) ⟨mr_qv hp (by omega), ?_⟩)⟩
    by_cases z : qk (p * 9 + i) = 4
    · exact br_t (by rw [c1]; exact z) (h1 ⟨i, by omega, z⟩)
    · refine br_f (by rw [c1]; exact z) (nm_r (nI_1 i) (ih (i + 1) (by omega) (fun j hj => ?_)))
      by_cases q : j = i
      · rw [q]; exact z
      · exact hn j (by omega)
theorem ym_hn {post : Int32 → Prop} (hp : p < 16) (h9 : n ≤ 9) (hl : ly p = nI n) (h1 : (∃ i, i < n ∧ qk (p * 9 + i) = 4) → post 1) (h0 : (∀ i, i < n → ¬ qk (p * 9 + i) = 4) → post 0) : wpY_hasNotice post (nI T, nI P, nI N, nI Q, nI al, ic, r0, r1, r2, r3, ty, dy, st, S, O, ar, qi, qk, qp, ly, wl) (nI p) :=
  ⟨n + 1, ym_hnL hp h9 hl h1 h0 n 0 (by omega) (fun j hj => absurd hj (by omega))⟩
end
