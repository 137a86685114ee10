/-! destroyReceive -/
section
variable {W W' : Nat → Prop} {e off T P N Q al p n t m x c D : Nat} {l : Nat → Nat} {dc ic r0 r1 r2 r3 : Int32} {tx dx st S O ar lx h mi mk mp wl rc ty dy qi qk qp ly : Nat → Int32} {v w i k z : Int32}
theorem mr_out : ∀ d hd, hd + d = 16 → ∀ (W : Nat → Prop) (tail : Nat) (wl : Nat → Int32) (f : Nat → Nat) (tx dx ty dy st S O ar : Nat → Int32) (ic : Int32) (l : Nat → Nat) (lx mi mk mp qi qk qp ly : Nat → Int32), mr_R W 16 0 T P N Q al l tx dx st S O ar lx h mi mk mp ty dy qi qk qp ly → mr_WI W al hd tail st wl f → ∃ (tail' : Nat) (wl' tx' dx' ty' dy' st' S' O' ar' : Nat → Int32) (ic' : Int32) (l' : Nat → Nat) (lx' mi' mk' mp' qi' qk' qp' ly' : Nat → Int32), mr_R (fun _ => False) 16 0 T P N Q al l' tx' dx' st' S' O' ar' lx' h mi' mk' mp' ty' dy' qi' qk' qp' ly' ∧ (∀ (rc : Nat → Int32) (post : Int32 → SX → Prop), post (nI tail') (nI T, nI P, nI N, nI Q, nI tail', nI al, ic', tx', dx', st', S', O', ar', lx', h, mi', mk', mp', wl', rc) → wX_destroyReceive_41 post (d + 1) (nI hd) (nI T) (nI P) (nI N) (nI Q) (nI tail) (nI al) ic tx dx st S O ar lx h mi mk mp wl rc) ∧ (∀ (r0 r1 r2 r3 : Int32) (post : Int32 → SY → Prop), post (nI tail') (nI T, nI P, nI N, nI Q, nI al, ic', r0, r1, r2, r3, ty', dy', st', S', O', ar', qi', qk', qp', ly', wl') → wY_destroyReceive_65 post (d + 1) (nI hd) (nI tail) (nI hd) (nI hd) (nI T) (nI P) (nI N) (nI Q) (nI al) ic r0 r1 r2 r3 ty dy st S O ar qi qk qp ly wl) := by
  intro d
  induction d with
  | zero =>
    intro hd hhd W tail wl f tx dx ty dy st S O ar ic l lx mi mk mp qi qk qp ly hR hw
    obtain ⟨b1, b2, b3, b4, b5, b6⟩ := mr_Rb hR
    have t16 := mr_WI16 (by omega) hw
    have h0 := hw.1
    have et : tail = 16 := by omega
    have eh : hd = 16 := by omega
    subst et
    subst eh
    refine ⟨16, wl, tx, dx, ty, dy, st, S, O, ar, ic, l, lx, mi, mk, mp, qi, qk, qp, ly, mr_RW hR (fun x hx => ⟨fun q => ?_, fun q => absurd q (fun g => g)⟩), fun rc post hq => br_t (nI_le (a := 16) (Nat.le_refl _) (by omega)) hq, fun r0 r1 r2 r3 post hq => br_t (nI_le (a := 16) (Nat.le_refl _) (by omega)) hq⟩
    obtain ⟨j, a, b, _⟩ := (hw.2.2.2.2 x hx).mp q
    omega
  | succ d ih =>
    intro hd hhd W tail wl f tx dx ty dy st S O ar ic l lx mi mk mp qi qk qp ly hR hw
    obtain ⟨b1, b2, b3, b4, b5, b6⟩ := mr_Rb hR
    have hal : al ≤ 16 := by omega
    have t16 := mr_WI16 hal hw
    have h0 := hw.1
    by_cases ht : hd < tail
    · obtain ⟨hwl, hy⟩ := hw.2.1 hd ht
      have y16 : f hd < 16 := by omega
      have vy : vp_in (nI (f hd)) 16 := vp_in_nI y16 (by omega)
      have cy : (nI (f hd)).toNatClampNeg = f hd := nI_clamp (by omega)
      have vh : vp_in (nI hd) 16 := vp_in_nI (by omega) (by omega)
      have ch : (nI hd).toNatClampNeg = hd := nI_clamp (by omega)
      have hI := hR.2.2.2.2.2.2.2.2
      have elx : lx (f hd) = nI (l (f hd)) := by
        have a := hR.2.2.1 (f hd) y16
        rw [if_neg (by omega)] at a
        exact a
      have R9 := mr_R9 (ty' := mr_kfT 36 (f hd) ty dy) (dy' := mr_kfD 36 (f hd) ty dy) (tx' := mr_kfT 32 (f hd) tx dx) (dx' := mr_kfD 32 (f hd) tx dx) hR hy (fun c hc => ⟨if_pos hc, if_pos hc⟩) (fun c hc => ⟨if_pos hc, if_pos hc⟩) (fun _ => (hw.2.2.2.2 (f hd) y16).mpr ⟨hd, Nat.le_refl _, ht, rfl⟩)
      have W9 := mr_WId hal hw ht
      have hyl : ¬ mr_lv (upd st (f hd) 3) (f hd) := by
        unfold mr_lv
        rw [pk_us]
        decide
      obtain ⟨W1, tail1, wl1, f1, S1, O1, ar1, ic1, l1, lx1, mi1, mk1, mp1, qi1, qk1, qp1, ly1, r, z, w, X, Y⟩ := mr_disc (cnt := l (f hd)) hy hyl (l (f hd)) 0 (by omega) _ tail wl f _ _ _ ic l _ mi mk mp qi qk qp ly R9 rfl W9
      obtain ⟨tail', wl', tx', dx', ty', dy', st', S', O', ar', ic', l', lx', mi', mk', mp', qi', qk', qp', ly', rF, XI, YI⟩ := ih (hd + 1) (by omega) W1 tail1 wl1 f1 _ _ _ _ _ S1 O1 ar1 ic1 l1 lx1 mi1 mk1 mp1 qi1 qk1 qp1 ly1 (mr_Rz r z) w
      refine ⟨tail', wl', tx', dx', ty', dy', st', S', O', ar', ic', l', lx', mi', mk', mp', qi', qk', qp', ly', rF, fun rc post hq => ?_, fun r0 r1 r2 r3 post hq => ?_⟩
      · have DQ : ∀ q : SX → Prop, q (nI T, nI P, nI N, nI Q, nI tail1, nI al, ic1, mr_kfT 32 (f hd) tx dx, mr_kfD 32 (f hd) tx dx, upd st (f hd) 3, S1, O1, ar1, lx1, h, mi1, mk1, mp1, wl1, rc) → wpX_discardQueue q (nI T, nI P, nI N, nI Q, nI tail, nI al, ic, mr_kfT 32 (f hd) tx dx, mr_kfD 32 (f hd) tx dx, upd st (f hd) 3, upd S (f hd) 0, upd O (f hd) 0, upd ar (f hd) 0, lx, h, mi, mk, mp, wl, rc) (nI (f hd)) := by
          intro q hq
          unfold wpX_discardQueue
          exact nm_r mr_9 ⟨vy, nm_r (e' := nI (l (f hd))) (by rw [cy]; exact elx) ⟨vy, nm_r (e' := upd lx (f hd) 0) (by rw [cy]) ⟨l (f hd) + 1, X rc q hq (l (f hd) + 1) (by omega)⟩⟩⟩
        refine br_f (nI_ge (b := 16) (by omega) (by omega)) (br_f (nI_ge ht (by omega)) ⟨vh, nm_r (e' := nI (f hd)) (by rw [ch]; exact hwl) ?_⟩)
        refine xm_ki ⟨vy, nm_r (e' := upd st (f hd) 3) (by rw [cy]) ⟨vy, nm_r (e' := upd S (f hd) 0) (by rw [cy]) ⟨vy, nm_r (e' := upd O (f hd) 0) (by rw [cy]) ⟨vy, nm_r (e' := upd ar (f hd) 0) (by rw [cy, mr_nb0]) ?_⟩⟩⟩⟩
        exact DQ _ (nm_r (nI_1 hd) (XI rc post hq))
      · refine br_f (nI_ge (b := 16) (by omega) (by omega)) (br_t (nI_lt ht (by omega)) ⟨vh, nm_r (e' := nI (f hd)) (by rw [ch]; exact hwl) (nm_r (nI_1 hd) (br_f (nI_pos (by omega)) (br_t (nI_lt (by omega) (by omega)) (nm_r (nI_1 hd) ⟨37, ?_⟩))))⟩)
        refine ym_kiL b1 b4 hal hy hI.1 ⟨l (f hd) + 1, ?_⟩ 36 0 (by omega) ty dy mr_KS0
        refine Y r0 r1 r2 r3 _ _ _ post _ ?_ (l (f hd) + 1) (by omega)
        rw [nI_1]
        exact YI r0 r1 r2 r3 post hq
    · have et : tail = hd := by omega
      subst et
      refine ⟨tail, wl, tx, dx, ty, dy, st, S, O, ar, ic, l, lx, mi, mk, mp, qi, qk, qp, ly, mr_RW hR (fun x hx => ⟨fun q => ?_, fun q => absurd q (fun g => g)⟩), fun rc post hq => br_f (nI_ge (b := 16) (by omega) (by omega)) (br_t (nI_le (Nat.le_refl _) (by omega)) hq), fun r0 r1 r2 r3 post hq => br_f (nI_ge (b := 16) (by omega) (by omega)) (br_f (nI_nlt (Nat.le_refl _) (by omega)) hq)⟩
      obtain ⟨j, a, b, _⟩ := (hw.2.2.2.2 x hx).mp q
      omega
theorem xm_dr {post : Int32 → SX → Prop} (ht : t < T) (hT : T ≤ 4) (hm : m < N) (hN : N ≤ 8) (h0 : ¬ tx (t * 8 + m) &&& 1 = 0) (hd : dx (t * 8 + m) = nI p) (hq : wX_destroyReceive_41 post 17 (nI 0) (nI T) (nI P) (nI N) (nI Q) (nI 1) (nI al) ic tx dx st S O ar lx h mi mk mp (upd wl 0 (nI p)) rc) : wpX_destroyReceive post (nI T, nI P, nI N, nI Q, dc, nI al, ic, tx, dx, st, S, O, ar, lx, h, mi, mk, mp, wl, rc) (nI t) (nI (m + 1)) := by
  unfold wpX_destroyReceive
  refine xm_rr0 ht hT hm hN h0 (br_t rfl ?_)
  exact xm_cell ⟨vp_in_nI (by omega) (by omega), nm_r (e' := upd wl 0 (nI p)) (by rw [nI_clamp (by omega), hd]) ⟨17, hq⟩⟩
theorem ym_dr {post : Int32 → SY → Prop} (ht : t < T) (hT : T ≤ 4) (hm : m < N) (hN : N ≤ 8) (h0 : ¬ ty (t * 9 + (m + 1)) &&& 1 = 0) (hd : dy (t * 9 + (m + 1)) = nI p) (hq : wY_destroyReceive_65 post 17 (nI 0) (nI 1) (nI 0) (nI 0) (nI T) (nI P) (nI N) (nI Q) (nI al) ic r0 r1 r2 r3 ty dy st S O ar qi qk qp ly (upd wl 0 (nI p))) : wpY_destroyReceive post (nI T, nI P, nI N, nI Q, nI al, ic, r0, r1, r2, r3, ty, dy, st, S, O, ar, qi, qk, qp, ly, wl) (nI t) (nI (m + 1)) := by
  have v2 := mr_yv (t := t) (n := m + 1) (by omega) (by omega)
  have c2 := mr_ycl (t := t) (n := m + 1) (by omega) (by omega)
  unfold wpY_destroyReceive
  refine ym_task1 ht hT (br_f mr_10 ?_)
  exact ym_name1 hm hN (br_f mr_10 ⟨v2, br_f (by rw [c2]; exact h0) ⟨v2, nm_r (e' := upd wl 0 (nI p)) (by rw [c2, hd]) ⟨17, hq⟩⟩⟩)
end
theorem i_vc_destroyReceive {k : Nat} {u : SX} {v : SY} (I : i_Rel k u v) (hk : k + 5 ≤ 2564) (v1 : Int32) (v2 : Int32) : wpX_destroyReceive (fun r u' => wpY_destroyReceive (fun r' v' => r' = r ∧ i_Rel (k + 5) u' v') v v1 v2) u v1 v2 := by
  obtain ⟨T, P, N, Q, al, l, dc, ic, tx, dx, st, S, O, ar, lx, h, mi, mk, mp, wl, rc, ty, dy, qi, qk, qp, ly, rfl, rfl, hR⟩ := I
  obtain ⟨b1, b2, b3, b4, b5, b6⟩ := mr_Rb hR
  have F := mr_fin (kk := k + 5) (dc := dc) (ic := ic) (wl := wl) (rc := rc) hR rfl rfl rfl rfl
  rcases mr_tk (T := T) v1 (by omega) with hy | ⟨t, ht, rfl⟩
  · exact xm_destroyReceiveT hy (ym_destroyReceiveT hy ⟨rfl, F⟩)
  rcases mr_nk (N := N) v2 b4 with hn | ⟨m, hm, rfl⟩
  · exact xm_destroyReceiveN ht b1 hn (ym_destroyReceiveN ht b1 hn ⟨rfl, F⟩)
  have hI := hR.2.2.2.2.2.2.2.2
  have nn := hR.2.1 t m (by omega) (by omega)
  have tk := mr_Ntok (c := t * 9 + (m + 1)) hI.1 (by omega)
  by_cases hr : ty (t * 9 + (m + 1)) &&& 1 = 0
  · exact xm_destroyReceiveF ht b1 hm b4 (by rw [nn.1]; exact hr) (ym_destroyReceiveF ht b1 hm b4 hr ⟨rfl, F⟩)
  have hr' : ty (t * 9 + (m + 1)) = 1 ∨ ty (t * 9 + (m + 1)) = 3 := Classical.byContradiction (fun a => hr ((mr_a1 tk).mpr a))
  obtain ⟨p, hp, hd, hs⟩ := mr_Nr hI.1 (by omega) hr'
  have X0 : ¬ tx (t * 8 + m) &&& 1 = 0 := by rw [nn.1]; exact hr
  have R1 := mr_Rw1 (y := p) hR (by rw [hs]; decide)
  have W1 : mr_WI (fun x => x = p) al 0 1 st (upd wl 0 (nI p)) (fun _ => p) := by
    refine ⟨by omega, fun j hj => ?_, fun i j hi hj _ => by omega, fun j hj => absurd hj (by omega), fun x hx => ⟨fun q => ⟨0, by omega, by omega, q.symm⟩, fun q => ?_⟩⟩
    · have e : j = 0 := by omega
      rw [e, pk_us]
      exact ⟨rfl, hp⟩
    · obtain ⟨j, _, _, c⟩ := q
      exact c.symm
  obtain ⟨tail', wl', tx', dx', ty', dy', st', S', O', ar', ic', l', lx', mi', mk', mp', qi', qk', qp', ly', rF, XI, YI⟩ := mr_out 16 0 (by omega) _ 1 _ _ tx dx ty dy st S O ar ic l lx mi mk mp qi qk qp ly R1 W1
  exact xm_dr ht b1 hm b4 X0 (nn.2.trans hd) (XI rc _ (ym_dr ht b1 hm b4 hr hd (YI _ _ _ _ _ ⟨rfl, mr_fin rF rfl rfl rfl rfl⟩)))
