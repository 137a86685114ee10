/-! the relation of the two states, and the constructors -/
def i_Rel (k : Nat) (u : SX) (v : SY) : Prop := ∃ (T P N Q al : Nat) (l : Nat → Nat) (dc ic : Int32) (tx dx st S O ar lx h mi mk mp wl rc ty dy qi qk qp ly : Nat → Int32), u = (nI T, nI P, nI N, nI Q, dc, nI al, ic, tx, dx, st, S, O, ar, lx, h, mi, mk, mp, wl, rc) ∧ v = (nI T, nI P, nI N, nI Q, nI al, ic, rc 0, rc 1, rc 2, rc 3, ty, dy, st, S, O, ar, qi, qk, qp, ly, wl) ∧ mr_R (fun _ => False) 16 0 T P N Q al l tx dx st S O ar lx h mi mk mp ty dy qi qk qp ly
theorem i_up {k : Nat} {u : SX} {v : SY} (h : i_Rel k u v) : i_Rel (k + 5) u v := h
theorem mr_cl (y : Int32) (a b : Nat) (hab : a ≤ b) (hb : b < 100) : ∃ n, a ≤ n ∧ n ≤ b ∧ (∀ post : Int32 → Prop, post (nI n) → wpX_clamp post y (nI a) (nI b)) ∧ (∀ (u : SY) (post : Int32 → Prop), post (nI n) → wpY_clamp post u y (nI a) (nI b)) := by
  by_cases h1 : nI a ≤ y
  · have h0 : ¬ y < 0 := fun q => by
      have := nI_pos (n := a) (by omega)
      exact this (Int32.lt_of_le_of_lt h1 q)
    obtain ⟨j, hj, rfl⟩ := nI_of h0
    by_cases h2 : j ≤ b
    · refine ⟨j, (nI_leI (by omega) hj).mp h1, h2, fun post hp => br_t h1 (br_t (nI_le h2 (by omega)) hp), fun u post hp => ?_⟩
      obtain ⟨_, _, _, _, _, _, _, _, _, _, _, _, _, _, _, _, _, _, _, _, _⟩ := u
      exact br_t h1 (br_t (nI_le h2 (by omega)) hp)
    · refine ⟨b, hab, Nat.le_refl _, fun post hp => br_t h1 (br_f (nI_ge (by omega) hj) hp), fun u post hp => ?_⟩
      obtain ⟨_, _, _, _, _, _, _, _, _, _, _, _, _, _, _, _, _, _, _, _, _⟩ := u
      exact br_t h1 (br_f (nI_ge (by omega) hj) hp)
  · refine ⟨a, Nat.le_refl _, hab, fun post hp => br_f h1 hp, fun u post hp => ?_⟩
    obtain ⟨_, _, _, _, _, _, _, _, _, _, _, _, _, _, _, _, _, _, _, _, _⟩ := u
    exact br_f h1 hp
section
variable {W W' : Nat → Prop} {e off T P N Q al p n t m x c D : Nat} {l : Nat → Nat} {dc ic r0 r1 r2 r3 : Int32} {tx dx st S O ar lx h mi mk mp wl rc ty dy qi qk qp ly : Nat → Int32} {v w i k z : Int32}
theorem mr_fin {kk : Nat} (hR : mr_R (fun _ => False) 16 off T P N Q al l tx dx st S O ar lx h mi mk mp ty dy qi qk qp ly) (e0 : rc 0 = r0) (e1 : rc 1 = r1) (e2 : rc 2 = r2) (e3 : rc 3 = r3) : i_Rel kk (nI T, nI P, nI N, nI Q, dc, nI al, ic, tx, dx, st, S, O, ar, lx, h, mi, mk, mp, wl, rc) (nI T, nI P, nI N, nI Q, nI al, ic, r0, r1, r2, r3, ty, dy, st, S, O, ar, qi, qk, qp, ly, wl) := by
  subst e0 e1 e2 e3
  obtain ⟨hB, hNN, hX, hY, g1, g2, g3, hb, hI⟩ := hR
  exact ⟨T, P, N, Q, al, l, dc, ic, tx, dx, st, S, O, ar, lx, h, mi, mk, mp, wl, rc, ty, dy, qi, qk, qp, ly, rfl, rfl, hB, hNN, hX, hY, mr_Gd g1, mr_Gd g2, mr_Gd g3, fun q => absurd q (by omega), hI⟩
theorem xm_inL {post : SX → Prop} {f0 f1 f2 f3 f4 f5 f6 : Int32} (hq : ∀ dx' : Nat → Int32, (∀ c, c < 32 → dx' c = -1) → post (f0, f1, f2, f3, f4, f5, f6, tx, dx', st, S, O, ar, lx, h, mi, mk, mp, wl, upd rc 3 (-1))) : ∀ d i, i + d = 32 → ∀ dx : Nat → Int32, (∀ c, c < i → dx c = -1) → wX_init_172 post f0 f1 f2 f3 f4 f5 f6 (d + 1) (nI i) tx dx st S O ar lx h mi mk mp wl rc := by
  intro d
  induction d with
  | zero =>
    intro i hi dx hd
    exact br_t (nI_le (a := 32) (by omega) (by omega)) (nm_e (hq dx (fun c hc => hd c (by omega))))
  | succ d ih =>
    intro i hi dx hd
    have c1 : (nI i).toNatClampNeg = i := nI_clamp (by omega)
    refine br_f (nI_ge (b := 32) (by omega) (by omega)) ⟨vp_in_nI (by omega) (by omega), nm_r (e' := upd dx i (-1)) (by rw [c1]) (nm_r (nI_1 i) (ih (i + 1) (by omega) _ (fun c hc => ?_)))⟩
    by_cases q : c = i
    · rw [q, pk_us]
    · rw [pk_un q]
      exact hd c (by omega)
theorem ym_inL {post : SY → Prop} {f0 f1 f2 f3 f4 f5 f6 f7 f8 f9 : Int32} (hq : ∀ dy' : Nat → Int32, (∀ c, c < 36 → dy' c = -1) → post (f0, f1, f2, f3, f4, f5, f6, f7, f8, f9, ty, dy', st, S, O, ar, qi, qk, qp, ly, wl)) : ∀ d i, i + d = 36 → ∀ dy : Nat → Int32, (∀ c, c < i → dy c = -1) → wY_init_151 post f0 f1 f2 f3 f4 f5 f6 f7 f8 f9 (d + 1) (nI i) ty dy st S O ar qi qk qp ly wl := by
  intro d
  induction d with
  | zero =>
    intro i hi dy hd
    exact br_t (nI_le (a := 36) (by omega) (by omega)) (hq dy (fun c hc => hd c (by omega)))
  | succ d ih =>
    intro i hi dy hd
    have c1 : (nI i).toNatClampNeg = i := nI_clamp (by omega)
    refine br_f (nI_ge (b := 36) (by omega) (by omega)) ⟨vp_in_nI (by omega) (by omega), nm_r (e' := upd dy i (-1)) (by rw [c1]) (nm_r (nI_1 i) (ih (i + 1) (by omega) _ (fun c hc => ?_)))⟩
    by_cases q : c = i
    · rw [q, pk_us]
    · rw [pk_un q]
      exact hd c (by omega)
theorem mr_R0 (hB : mr_B T P N Q 0) (hx : ∀ c, c < 32 → dx c = -1) (hy : ∀ c, c < 36 → dy c = -1) : mr_R (fun _ => False) 16 0 T P N Q 0 (fun _ => 0) (fun _ => 0) dx (fun _ => 0) (fun _ => 0) (fun _ => 0) (fun _ => 0) (fun _ => 0) (fun _ => 0) (fun _ => 0) (fun _ => 0) (fun _ => 0) (fun _ => 0) dy (fun _ => 0) (fun _ => 0) (fun _ => 0) (fun _ => 0) := by
  have n0 : ¬ ((0 : Int32) = 1 ∨ (0 : Int32) = 3) := by decide
  have n2 : ¬ (0 : Int32) = 2 := by decide
  refine ⟨hB, fun t m ht hm => ⟨rfl, (hx _ (by omega)).trans (hy _ (by omega)).symm⟩, fun p hp => ?_, fun p hp => rfl, fun p i hp hi => absurd hi (Nat.not_lt_zero i), fun p i hp hi => absurd hi (Nat.not_lt_zero i), fun p i hp hi => absurd hi (Nat.not_lt_zero i), fun q => absurd q (by omega), fun c hc => Or.inl ⟨rfl, hy c hc⟩, fun c c' _ _ a _ _ => absurd a n0, fun p hp => ⟨fun _ => rfl, fun _ => ⟨rfl, rfl, rfl⟩, Or.inl rfl⟩, fun p _ _ _ => rfl, fun p hp => ⟨Nat.zero_le _, Nat.zero_le _, fun _ => rfl⟩, fun p i hp hi => absurd hi (Nat.not_lt_zero i), fun p i p' i' hp hi _ _ => absurd hi (Nat.not_lt_zero i), fun z hz a => absurd a n2, fun p hp => ⟨0, hp, n2⟩⟩
  rw [ite_self]
  rfl
end
theorem i_vc0 (k0 : Int32) (k1 : Int32) (k2 : Int32) (k3 : Int32) : wpX_init (fun u => wpY_init (fun v => i_Rel 4 u v) k0 k1 k2 k3) k0 k1 k2 k3 := by
  obtain ⟨T, t1, t2, tX, tY⟩ := mr_cl k0 2 4 (by omega) (by omega)
  obtain ⟨P, p1, p2, pX, pY⟩ := mr_cl k1 4 16 (by omega) (by omega)
  obtain ⟨N, n1, n2, nX, nY⟩ := mr_cl k2 4 8 (by omega) (by omega)
  obtain ⟨Q, q1, q2, qX, qY⟩ := mr_cl k3 2 8 (by omega) (by omega)
  unfold wpX_init
  refine tX _ ?_
  refine pX _ ?_
  refine nX _ ?_
  refine qX _ ⟨33, ?_⟩
  refine xm_inL (fun dx hx => ?_) 32 0 (by omega) _ (fun c hc => absurd hc (by omega))
  unfold wpY_init
  refine tY _ _ ?_
  refine pY _ _ ?_
  refine nY _ _ ?_
  refine qY _ _ ⟨37, ?_⟩
  refine ym_inL (fun dy hy => ?_) 36 0 (by omega) _ (fun c hc => absurd hc (by omega))
  exact mr_fin (al := 0) (mr_R0 ⟨t1, t2, p1, p2, n1, n2, q1, q2, Nat.zero_le _⟩ hx hy) rfl rfl rfl rfl
