/-! the queue of a dying port is thrown away, on both sides -/
section
variable {W W' : Nat → Prop} {e off T P N Q al p n t m x c D : Nat} {l : Nat → Nat} {dc ic r0 r1 r2 r3 : Int32} {tx dx st S O ar lx h mi mk mp wl rc ty dy qi qk qp ly : Nat → Int32} {v w i k z : Int32}
variable {y cnt hd : Nat}
theorem mr_disc (hy : y < al) (hyl : ¬ mr_lv st y) : ∀ d off, off + d = cnt → ∀ (W : Nat → Prop) (tail : Nat) (wl : Nat → Int32) (f : Nat → Nat) (S O ar : Nat → Int32) (ic : Int32) (l : Nat → Nat) (lx mi mk mp qi qk qp ly : Nat → Int32), mr_R W y off T P N Q al l tx dx st S O ar lx h mi mk mp ty dy qi qk qp ly → l y = d → mr_WI W al hd tail st wl f → ∃ (W' : Nat → Prop) (tail' : Nat) (wl' : Nat → Int32) (f' : Nat → Nat) (S' O' ar' : Nat → Int32) (ic' : Int32) (l' : Nat → Nat) (lx' mi' mk' mp' qi' qk' qp' ly' : Nat → Int32), mr_R W' y cnt T P N Q al l' tx dx st S' O' ar' lx' h mi' mk' mp' ty dy qi' qk' qp' ly' ∧ l' y = 0 ∧ mr_WI W' al hd tail' st wl' f' ∧ (∀ (rc : Nat → Int32) (post : SX → Prop), post (nI T, nI P, nI N, nI Q, nI tail', nI al, ic', tx, dx, st, S', O', ar', lx', h, mi', mk', mp', wl', rc) → ∀ n, d < n → wX_discardQueue_22 post (nI (y * 9)) (nI cnt) n (nI off) (nI T) (nI P) (nI N) (nI Q) (nI tail) (nI al) ic tx dx st S O ar lx h mi mk mp wl rc) ∧ (∀ (r0 r1 r2 r3 y3 y5 y6 : Int32) (post : Int32 → SY → Prop) (J : Int32 → Int32 → Int32 → Int32 → Int32 → Int32 → Int32 → Int32 → Int32 → Int32 → Int32 → Int32 → Int32 → Int32 → (Nat → Int32) → (Nat → Int32) → (Nat → Int32) → (Nat → Int32) → (Nat → Int32) → (Nat → Int32) → (Nat → Int32) → (Nat → Int32) → (Nat → Int32) → (Nat → Int32) → (Nat → Int32) → Prop), J y3 (nI tail') y5 (y6 + 1) (nI T) (nI P) (nI N) (nI Q) (nI al) ic' r0 r1 r2 r3 ty dy st S' O' ar' qi' qk' qp' ly' wl' → ∀ n, d < n → wY_destroyReceive_279 post J y3 y5 y6 (nI y) n (nI tail) (nI off) (nI T) (nI P) (nI N) (nI Q) (nI al) ic r0 r1 r2 r3 ty dy st S O ar qi qk qp ly wl) := by
  intro d
  induction d with
  | zero =>
    intro off hoff W tail wl f S O ar ic l lx mi mk mp qi qk qp ly hR hl hw
    obtain ⟨b1, b2, b3, b4, b5, b6⟩ := mr_Rb hR
    have ec : off = cnt := by omega
    subst ec
    have y16 : y < 16 := by omega
    have hb := hR.2.2.2.2.2.2.2.1 y16
    have vy : vp_in (nI y) 16 := vp_in_nI y16 (by omega)
    have cy : (nI y).toNatClampNeg = y := nI_clamp (by omega)
    refine ⟨W, tail, wl, f, S, O, ar, ic, l, lx, mi, mk, mp, qi, qk, qp, ly, hR, hl, hw, fun rc post hq n hn => ?_, fun r0 r1 r2 r3 y3 y5 y6 post J hJ n hn => ?_⟩
    · cases n with
      | zero => exact absurd hn (by omega)
      | succ n => exact br_t (nI_le (Nat.le_refl _) (by omega)) hq
    · cases n with
      | zero => exact absurd hn (by omega)
      | succ n =>
        by_cases z : 9 ≤ off
        · exact br_t (nI_le (a := 9) z (by omega)) (nm_e hJ)
        · refine br_f (nI_ge (b := 9) (by omega) (by omega)) ⟨vy, br_f ?_ (nm_e hJ)⟩
          rw [cy, hR.2.2.2.1 y y16, hl]
          decide
  | succ d ih =>
    intro off hoff W tail wl f S O ar ic l lx mi mk mp qi qk qp ly hR hl hw
    obtain ⟨b1, b2, b3, b4, b5, b6⟩ := mr_Rb hR
    have y16 : y < 16 := by omega
    have hal : al ≤ 16 := by omega
    have hb := hR.2.2.2.2.2.2.2.1 y16
    have hI := hR.2.2.2.2.2.2.2.2
    have vy : vp_in (nI y) 16 := vp_in_nI y16 (by omega)
    have cy : (nI y).toNatClampNeg = y := nI_clamp (by omega)
    have hly : ly y = nI (d + 1) := (hR.2.2.2.1 y y16).trans (by rw [hl])
    have pos : 0 < ly (nI y).toNatClampNeg := by
      rw [cy, hly]
      exact nI_lt (a := 0) (by omega) (by omega)
    have ei : nI (y * 9) + nI off = nI (y * 9 + off) := nI_add _ _
    have vi : vp_in (nI (y * 9) + nI off) 144 := by
      rw [ei]
      exact vp_in_nI (by omega) (by omega)
    have ci : (nI (y * 9) + nI off).toNatClampNeg = y * 9 + off := by
      rw [ei]
      exact nI_clamp (by omega)
    have v9 : vp_in (nI y * 9) 144 := by
      rw [mr_9]
      exact vp_in_nI (by omega) (by omega)
    have c9 : (nI y * 9).toNatClampNeg = y * 9 := by
      rw [mr_9]
      exact nI_clamp (by omega)
    have g2 : mk (y * 9 + off) = qk (y * 9) := by
      have g := hR.2.2.2.2.2.1 y 0 y16 (by omega)
      rw [if_pos rfl, Nat.zero_add] at g
      exact g
    have g3 : mp (y * 9 + off) = qp (y * 9) := by
      have g := hR.2.2.2.2.2.2.1 y 0 y16 (by omega)
      rw [if_pos rfl, Nat.zero_add] at g
      exact g
    have M0 : mr_mok al W st h y (qk (y * 9)) (qp (y * 9)) := hI.2.2.2.2.2.1 y 0 y16 (by omega)
    have R1 := mr_Rpop hR y16 hl mr_Shf mr_Shf mr_Shf
    have RW : ¬ qk (y * 9) = 3 → mr_R W y (off + 1) T P N Q al (mr_ul l y d) tx dx st S O ar lx h mi mk mp ty dy (mr_shf y d qi) (mr_shf y d qk) (mr_shf y d qp) (upd ly y (nI d)) := fun a => mr_RW R1 (fun q _ => ⟨fun b => b.elim (fun c => c) (fun c => absurd c.1 a), Or.inl⟩)
    rcases M0 with ⟨hk0, hz⟩ | ⟨x, hx, hz, kk⟩
    · have n1 : ¬ qk (y * 9) = 1 := by rcases hk0 with a | a <;> rw [a] <;> decide
      have n2 : ¬ qk (y * 9) = 2 := by rcases hk0 with a | a <;> rw [a] <;> decide
      have n3 : ¬ qk (y * 9) = 3 := by rcases hk0 with a | a <;> rw [a] <;> decide
      obtain ⟨W', tail', wl', f', S', O', ar', ic', l', lx', mi', mk', mp', qi', qk', qp', ly', r, z, w, X, Y⟩ := ih (off + 1) (by omega) W tail wl f S O ar ic _ lx mi mk mp _ _ _ _ (RW n3) mr_uls hw
      refine ⟨W', tail', wl', f', S', O', ar', ic', l', lx', mi', mk', mp', qi', qk', qp', ly', r, z, w, fun rc post hq n hn => ?_, fun r0 r1 r2 r3 y3 y5 y6 post J hJ n hn => ?_⟩
      · cases n with
        | zero => exact absurd hn (by omega)
        | succ n => exact br_f (nI_ge (by omega) (by omega)) ⟨vi, nm_r (e' := qp (y * 9)) (by rw [ci]; exact g3) ⟨vi, nm_r (e' := qk (y * 9)) (by rw [ci]; exact g2) (br_f n1 (br_f n2 (br_f n3 (nm_r (nI_1 off) (X rc post hq n (by omega))))))⟩⟩
      · cases n with
        | zero => exact absurd hn (by omega)
        | succ n => exact br_f (nI_ge (b := 9) (by omega) (by omega)) ⟨vy, br_t pos ⟨v9, nm_r (e' := qk (y * 9)) (by rw [c9]) ⟨v9, nm_r (e' := qp (y * 9)) (by rw [c9]) (ym_rd (by omega) b3 (by omega) hly (br_f n1 (br_f n2 (br_f n3 (nm_r (nI_1 off) (Y r0 r1 r2 r3 y3 y5 y6 post J hJ n (by omega)))))))⟩⟩⟩
    · have x16 : x < 16 := by omega
      rcases kk with k1 | k2 | ⟨k3, s2, _, nW⟩
      · obtain ⟨S1, ar1, ic1, l1, lx1, mi1, mk1, mp1, qi1, qk1, qp1, ly1, R2, le, dX, dY⟩ := mr_dec (RW (by rw [k1]; decide)) hx (fun _ => hyl) ic
        obtain ⟨W', tail', wl', f', S', O', ar', ic', l', lx', mi', mk', mp', qi', qk', qp', ly', r, z, w, X, Y⟩ := ih (off + 1) (by omega) W tail wl f S1 O ar1 ic1 l1 lx1 mi1 mk1 mp1 qi1 qk1 qp1 ly1 R2 ((le y16).trans mr_uls) hw
        refine ⟨W', tail', wl', f', S', O', ar', ic', l', lx', mi', mk', mp', qi', qk', qp', ly', r, z, w, fun rc post hq n hn => ?_, fun r0 r1 r2 r3 y3 y5 y6 post J hJ n hn => ?_⟩
        · cases n with
          | zero => exact absurd hn (by omega)
          | succ n => exact br_f (nI_ge (by omega) (by omega)) ⟨vi, nm_r (e' := nI x) (by rw [ci]; exact g3.trans hz) ⟨vi, nm_r (e' := qk (y * 9)) (by rw [ci]; exact g2) (br_t k1 (dX (nI tail) wl rc _ (nm_r (nI_1 off) (X rc post hq n (by omega)))))⟩⟩
        · cases n with
          | zero => exact absurd hn (by omega)
          | succ n => exact br_f (nI_ge (b := 9) (by omega) (by omega)) ⟨vy, br_t pos ⟨v9, nm_r (e' := qk (y * 9)) (by rw [c9]) ⟨v9, nm_r (e' := nI x) (by rw [c9]; exact hz) (ym_rd (by omega) b3 (by omega) hly (br_t k1 (dY r0 r1 r2 r3 wl _ (nm_r (nI_1 off) (Y r0 r1 r2 r3 y3 y5 y6 post J hJ n (by omega))))))⟩⟩⟩
      · have n1 : ¬ qk (y * 9) = 1 := by
          rw [k2]
          decide
        by_cases lv : mr_lv st x
        · have R2 := mr_RO (v := O x - 1) (RW (by rw [k2]; decide)) lv
          obtain ⟨W', tail', wl', f', S', O', ar', ic', l', lx', mi', mk', mp', qi', qk', qp', ly', r, z, w, X, Y⟩ := ih (off + 1) (by omega) W tail wl f S (upd O x (O x - 1)) ar ic _ lx mi mk mp _ _ _ _ R2 mr_uls hw
          refine ⟨W', tail', wl', f', S', O', ar', ic', l', lx', mi', mk', mp', qi', qk', qp', ly', r, z, w, fun rc post hq n hn => ?_, fun r0 r1 r2 r3 y3 y5 y6 post J hJ n hn => ?_⟩
          · cases n with
            | zero => exact absurd hn (by omega)
            | succ n => exact br_f (nI_ge (by omega) (by omega)) ⟨vi, nm_r (e' := nI x) (by rw [ci]; exact g3.trans hz) ⟨vi, nm_r (e' := qk (y * 9)) (by rw [ci]; exact g2) (br_f n1 (br_t k2 (xm_so1 x16 lv (nm_r (nI_1 off) (X rc post hq n (by omega))))))⟩⟩
          · cases n with
            | zero => exact absurd hn (by omega)
            | succ n => exact br_f (nI_ge (b := 9) (by omega) (by omega)) ⟨vy, br_t pos ⟨v9, nm_r (e' := qk (y * 9)) (by rw [c9]) ⟨v9, nm_r (e' := nI x) (by rw [c9]; exact hz) (ym_rd (by omega) b3 (by omega) hly (br_f n1 (br_t k2 (ym_so1 (by omega) b3 lv (nm_r (nI_1 off) (Y r0 r1 r2 r3 y3 y5 y6 post J hJ n (by omega)))))))⟩⟩⟩
        · obtain ⟨W', tail', wl', f', S', O', ar', ic', l', lx', mi', mk', mp', qi', qk', qp', ly', r, z, w, X, Y⟩ := ih (off + 1) (by omega) W tail wl f S O ar ic _ lx mi mk mp _ _ _ _ (RW (by rw [k2]; decide)) mr_uls hw
          refine ⟨W', tail', wl', f', S', O', ar', ic', l', lx', mi', mk', mp', qi', qk', qp', ly', r, z, w, fun rc post hq n hn => ?_, fun r0 r1 r2 r3 y3 y5 y6 post J hJ n hn => ?_⟩
          · cases n with
            | zero => exact absurd hn (by omega)
            | succ n => exact br_f (nI_ge (by omega) (by omega)) ⟨vi, nm_r (e' := nI x) (by rw [ci]; exact g3.trans hz) ⟨vi, nm_r (e' := qk (y * 9)) (by rw [ci]; exact g2) (br_f n1 (br_t k2 (xm_so0 x16 lv (nm_r (nI_1 off) (X rc post hq n (by omega))))))⟩⟩
          · cases n with
            | zero => exact absurd hn (by omega)
            | succ n => exact br_f (nI_ge (b := 9) (by omega) (by omega)) ⟨vy, br_t pos ⟨v9, nm_r (e' := qk (y * 9)) (by rw [c9]) ⟨v9, nm_r (e' := nI x) (by rw [c9]; exact hz) (ym_rd (by omega) b3 (by omega) hly (br_f n1 (br_t k2 (ym_so0 x16 b3 lv (nm_r (nI_1 off) (Y r0 r1 r2 r3 y3 y5 y6 post J hJ n (by omega)))))))⟩⟩⟩
      · have n1 : ¬ qk (y * 9) = 1 := by
          rw [k3]
          decide
        have n2 : ¬ qk (y * 9) = 2 := by
          rw [k3]
          decide
        obtain ⟨t16, w1⟩ := mr_WIp hal hw hx s2 nW
        have vt : vp_in (nI tail) 16 := vp_in_nI t16 (by omega)
        have ct : (nI tail).toNatClampNeg = tail := nI_clamp (by omega)
        have R2 := mr_RW (W' := fun q => W q ∨ q = x) R1 (fun q hq => ⟨fun b => b.elim Or.inl (fun c => Or.inr (mr_inj (c.2.symm.trans hz) (by omega) (by omega))), fun b => b.elim Or.inl (fun c => Or.inr ⟨k3, by rw [c]; exact hz⟩)⟩)
        obtain ⟨W', tail', wl', f', S', O', ar', ic', l', lx', mi', mk', mp', qi', qk', qp', ly', r, z, w, X, Y⟩ := ih (off + 1) (by omega) (fun q => W q ∨ q = x) (tail + 1) (upd wl tail (nI x)) _ S O ar ic _ lx mi mk mp _ _ _ _ R2 mr_uls w1
        refine ⟨W', tail', wl', f', S', O', ar', ic', l', lx', mi', mk', mp', qi', qk', qp', ly', r, z, w, fun rc post hq n hn => ?_, fun r0 r1 r2 r3 y3 y5 y6 post J hJ n hn => ?_⟩
        · cases n with
          | zero => exact absurd hn (by omega)
          | succ n => exact br_f (nI_ge (by omega) (by omega)) ⟨vi, nm_r (e' := nI x) (by rw [ci]; exact g3.trans hz) ⟨vi, nm_r (e' := qk (y * 9)) (by rw [ci]; exact g2) (br_f n1 (br_f n2 (br_t k3 ⟨vt, nm_r (e' := upd wl tail (nI x)) (by rw [ct]) (nm_r (nI_1 tail) (nm_r (nI_1 off) (X rc post hq n (by omega))))⟩)))⟩⟩
        · cases n with
          | zero => exact absurd hn (by omega)
          | succ n => exact br_f (nI_ge (b := 9) (by omega) (by omega)) ⟨vy, br_t pos ⟨v9, nm_r (e' := qk (y * 9)) (by rw [c9]) ⟨v9, nm_r (e' := nI x) (by rw [c9]; exact hz) (ym_rd (by omega) b3 (by omega) hly (br_f n1 (br_f n2 (br_t k3 (br_f (nI_ge (b := 16) t16 (by omega)) ⟨vt, nm_r (e' := upd wl tail (nI x)) (by rw [ct]) (nm_r (nI_1 tail) (nm_r (nI_1 off) (Y r0 r1 r2 r3 y3 y5 y6 post J hJ n (by omega))))⟩)))))⟩⟩⟩
end
