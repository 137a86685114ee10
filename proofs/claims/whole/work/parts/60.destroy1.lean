/-! the names of a dying port, on both sides -/
def mr_kfT (n y : Nat) (ty dy : Nat → Int32) : Nat → Int32 := fun c => if c < n then mr_kT y (ty c) (dy c) else ty c
def mr_kfD (n y : Nat) (ty dy : Nat → Int32) : Nat → Int32 := fun c => if c < n then mr_kD y (ty c) (dy c) else dy c
theorem mr_KSu {n y : Nat} {ty dy a b : Nat → Int32} (hs : mr_KS y n ty dy a b) : a = mr_kfT n y ty dy ∧ b = mr_kfD n y ty dy := by
  refine ⟨?_, ?_⟩
  · funext c
    by_cases q : c < n
    · exact (hs.1 c q).1.trans (if_pos q).symm
    · exact (hs.2 c (by omega)).1.trans (if_neg q).symm
  · funext c
    by_cases q : c < n
    · exact (hs.1 c q).2.trans (if_pos q).symm
    · exact (hs.2 c (by omega)).2.trans (if_neg q).symm
section
variable {W W' : Nat → Prop} {e off T P N Q al p n t m x c D : Nat} {l : Nat → Nat} {dc ic r0 r1 r2 r3 : Int32} {tx dx st S O ar lx h mi mk mp wl rc ty dy qi qk qp ly : Nat → Int32} {v w i k z : Int32}
variable {y : Nat} {y3 y4 y5 y6 : Int32}
theorem xm_kiL {post : SX → Prop} (hq : post (nI T, nI P, nI N, nI Q, dc, nI al, ic, mr_kfT 32 y tx dx, mr_kfD 32 y tx dx, st, S, O, ar, lx, h, mi, mk, mp, wl, rc)) : ∀ d i, i + d = 32 → ∀ tx1 dx1, mr_KS y i tx dx tx1 dx1 → wX_killNames_2 post (nI y) (d + 1) (nI i) (nI T) (nI P) (nI N) (nI Q) dc (nI al) ic tx1 dx1 st S O ar lx h mi mk mp wl rc := by
  intro d
  induction d with
  | zero =>
    intro i hi tx1 dx1 hs
    have e : i = 32 := by omega
    rw [e] at hs
    obtain ⟨a, b⟩ := mr_KSu hs
    rw [a, b]
    exact br_t (nI_le (a := 32) (by omega) (by omega)) hq
  | succ d ih =>
    intro i hi tx1 dx1 hs
    have v1 : vp_in (nI i) 32 := vp_in_nI (by omega) (by omega)
    have c1 : (nI i).toNatClampNeg = i := nI_clamp (by omega)
    have k1 := hs.2 i (Nat.le_refl _)
    refine br_f (nI_ge (b := 32) (by omega) (by omega)) ⟨v1, ?_⟩
    by_cases z : dx i = nI y
    · refine br_t (by rw [c1, k1.2]; exact z) ⟨v1, ?_⟩
      by_cases z1 : tx i = 1
      · refine br_t (by rw [c1, k1.1]; exact z1) ?_
        exact xm_free (by omega) (nm_r (nI_1 i) (ih (i + 1) (by omega) _ _ (mr_KSf hs z z1)))
      · exact br_f (by rw [c1, k1.1]; exact z1) ⟨v1, nm_r (e' := upd tx1 i 8) (by rw [c1]) (nm_r (nI_1 i) (ih (i + 1) (by omega) _ _ (mr_KSd hs z z1)))⟩
    · exact br_f (by rw [c1, k1.2]; exact z) (nm_r (nI_1 i) (ih (i + 1) (by omega) _ _ (mr_KSe hs z)))
theorem xm_ki {post : SX → Prop} (hq : post (nI T, nI P, nI N, nI Q, dc, nI al, ic, mr_kfT 32 y tx dx, mr_kfD 32 y tx dx, st, S, O, ar, lx, h, mi, mk, mp, wl, rc)) : wpX_killNames post (nI T, nI P, nI N, nI Q, dc, nI al, ic, tx, dx, st, S, O, ar, lx, h, mi, mk, mp, wl, rc) (nI y) :=
  ⟨33, xm_kiL hq 32 0 (by omega) tx dx mr_KS0⟩
theorem ym_nameA {post : Int32 → Prop} {q : Int32} (h0 : post 0) (h1 : post 1) : wpY_nameOk post (nI T, nI P, nI N, nI Q, nI al, ic, r0, r1, r2, r3, ty, dy, st, S, O, ar, qi, qk, qp, ly, wl) q := by
  by_cases a1 : q < 1
  · exact br_t a1 h0
  · by_cases a2 : nI N < q
    · exact br_f a1 (br_t a2 h0)
    · exact br_f a1 (br_f a2 h1)
theorem ym_kiL {post : Int32 → SY → Prop} {J : Int32 → Int32 → Int32 → Int32 → Int32 → Int32 → Int32 → Int32 → Int32 → Int32 → Int32 → Int32 → Int32 → Int32 → (Nat → Int32) → (Nat → Int32) → (Nat → Int32) → (Nat → Int32) → (Nat → Int32) → (Nat → Int32) → (Nat → Int32) → (Nat → Int32) → (Nat → Int32) → (Nat → Int32) → (Nat → Int32) → Prop} (hT : T ≤ 4) (h8 : N ≤ 8) (hal : al ≤ 16) (hy : y < al) (hN : mr_N T N al st ty dy) (hq : ∃ n, wY_destroyReceive_279 post J y3 y5 y6 (nI y) n y4 0 (nI T) (nI P) (nI N) (nI Q) (nI al) ic r0 r1 r2 r3 (mr_kfT 36 y ty dy) (mr_kfD 36 y ty dy) (upd st y 3) (upd S y 0) (upd O y 0) (upd ar y 0) qi qk qp ly wl) : ∀ d i, i + d = 36 → ∀ ty1 dy1, mr_KS y i ty dy ty1 dy1 → wY_destroyReceive_115 post J y3 y4 y5 y6 (nI y) (d + 1) (nI i) (nI T) (nI P) (nI N) (nI Q) (nI al) ic r0 r1 r2 r3 ty1 dy1 st S O ar qi qk qp ly wl := by
  have vy : vp_in (nI y) 16 := vp_in_nI (by omega) (by omega)
  have cy : (nI y).toNatClampNeg = y := nI_clamp (by omega)
  intro d
  induction d with
  | zero =>
    intro i hi ty1 dy1 hs
    have e : i = 36 := by omega
    rw [e] at hs
    obtain ⟨a, b⟩ := mr_KSu hs
    rw [a, b]
    exact br_t (nI_le (a := 36) (by omega) (by omega)) ⟨vy, nm_r (e' := upd st y 3) (by rw [cy]) ⟨vy, nm_r (e' := upd S y 0) (by rw [cy]) ⟨vy, nm_r (e' := upd O y 0) (by rw [cy]) ⟨vy, nm_r (e' := upd ar y 0) (by rw [cy, mr_nb0]) hq⟩⟩⟩⟩
  | succ d ih =>
    intro i hi ty1 dy1 hs
    have v1 : vp_in (nI i) 36 := vp_in_nI (by omega) (by omega)
    have c1 : (nI i).toNatClampNeg = i := nI_clamp (by omega)
    have k1 := hs.2 i (Nat.le_refl _)
    have n9 : ¬ (9 : Int32) = 0 := by decide
    have nx : ¬ dy i = nI y → ∀ q, q = nI i + 1 → wY_destroyReceive_115 post J y3 y4 y5 y6 (nI y) (d + 1) q (nI T) (nI P) (nI N) (nI Q) (nI al) ic r0 r1 r2 r3 ty1 dy1 st S O ar qi qk qp ly wl := fun z => nm_r (nI_1 i) (ih (i + 1) (by omega) _ _ (mr_KSe hs z))
    refine br_f (nI_ge (b := 36) (by omega) (by omega)) ⟨n9, nm_r (e' := nI (i / 9)) (pk_div (d := 9) (by omega) (by omega) (by omega)) ⟨n9, nm_r (e' := nI (i % 9)) (pk_rem (d := 9) (by omega) (by omega) (by omega)) ?_⟩⟩
    by_cases z0 : ty i = 0
    · have zd : ¬ dy i = nI y := fun a => mr_nm1 (a.symm.trans (mr_Nf hN (by omega) z0)) (by omega)
      by_cases zt : nI T ≤ nI (i / 9)
      · exact br_t zt (nx zd)
      · refine br_f zt ?_
        exact ym_nameA (br_t rfl (nx zd)) (br_f mr_10 ⟨v1, br_t (by rw [c1, k1.1]; exact z0) (nx zd)⟩)
    · obtain ⟨⟨w1, w2, w3⟩, _⟩ := mr_Nz hN (by omega) z0
      refine br_f (nI_ge w1 (by omega)) ?_
      have e9 : i % 9 = (i % 9 - 1) + 1 := by omega
      rw [e9]
      refine ym_name1 (by omega) h8 (br_f mr_10 ⟨v1, br_f (by rw [c1, k1.1]; exact z0) ⟨v1, ?_⟩⟩)
      by_cases zd : dy i = nI y
      · refine br_t (by rw [c1, k1.2]; exact zd) ⟨v1, ?_⟩
        by_cases z1 : ty i = 1
        · refine br_t (by rw [c1, k1.1]; exact z1) ?_
          exact ym_free (by omega) (nm_r (nI_1 i) (ih (i + 1) (by omega) _ _ (mr_KSf hs zd z1)))
        · have D8 : vp_in (nI i) 36 ∧ ∀ a : Nat → Int32, a = upd ty1 (nI i).toNatClampNeg 8 → ∀ q, q = nI i + 1 → wY_destroyReceive_115 post J y3 y4 y5 y6 (nI y) (d + 1) q (nI T) (nI P) (nI N) (nI Q) (nI al) ic r0 r1 r2 r3 a dy1 st S O ar qi qk qp ly wl := ⟨v1, nm_r (e' := upd ty1 i 8) (by rw [c1]) (nm_r (nI_1 i) (ih (i + 1) (by omega) _ _ (mr_KSd hs zd z1)))⟩
          refine br_f (by rw [c1, k1.1]; exact z1) ⟨v1, ?_⟩
          by_cases z2 : ty i = 2
          · exact br_t (by rw [c1, k1.1]; exact z2) D8
          · refine br_f (by rw [c1, k1.1]; exact z2) ⟨v1, ?_⟩
            by_cases z3 : ty i = 3
            · exact br_t (by rw [c1, k1.1]; exact z3) D8
            · refine br_f (by rw [c1, k1.1]; exact z3) ⟨v1, ?_⟩
              by_cases z4 : ty i = 4
              · exact br_t (by rw [c1, k1.1]; exact z4) D8
              · have z8 : ty i = 8 := by
                  rcases mr_Ntok hN (c := i) (by omega) with a | a | a | a | a | a
                  · exact absurd a z0
                  · exact absurd a z1
                  · exact absurd a z2
                  · exact absurd a z3
                  · exact absurd a z4
                  · exact a
                exact br_f (by rw [c1, k1.1]; exact z4) (nm_r (nI_1 i) (ih (i + 1) (by omega) _ _ (mr_KS8 hs zd z8)))
      · exact br_f (by rw [c1, k1.2]; exact zd) (nx zd)
end
