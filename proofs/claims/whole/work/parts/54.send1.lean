/-! send: the component's walks -/
/-- what the carried name must have for the disposition d -/
def mr_nd (d t : Int32) : Prop := ((d = 1 ∨ d = 4 ∨ d = 6) ∧ (t = 1 ∨ t = 3)) ∨ ((d = 2 ∨ d = 3) ∧ (t = 2 ∨ t = 3)) ∨ (d = 5 ∧ t = 4)
def mr_d16 (d : Int32) : Prop := d = 1 ∨ d = 2 ∨ d = 3 ∨ d = 4 ∨ d = 5 ∨ d = 6
theorem mr_d6 {y : Int32} (h0 : ¬ y < 0) (h6 : y ≤ 6) : y = 0 ∨ mr_d16 y := by
  obtain ⟨j, hj, e⟩ := nI_of2 (M := 6) (n := 6) (by decide) h0 h6
  rcases (show j = 0 ∨ j = 1 ∨ j = 2 ∨ j = 3 ∨ j = 4 ∨ j = 5 ∨ j = 6 by omega) with rfl | rfl | rfl | rfl | rfl | rfl | rfl
  · exact Or.inl e
  · exact Or.inr (Or.inl e)
  · exact Or.inr (Or.inr (Or.inl e))
  · exact Or.inr (Or.inr (Or.inr (Or.inl e)))
  · exact Or.inr (Or.inr (Or.inr (Or.inr (Or.inl e))))
  · exact Or.inr (Or.inr (Or.inr (Or.inr (Or.inr (Or.inl e)))))
  · exact Or.inr (Or.inr (Or.inr (Or.inr (Or.inr (Or.inr e)))))
theorem xm_nd {d t : Int32} (hd : mr_d16 d) (ht : mr_tok t) : ∃ nd, (∀ q : Int32 → Prop, q nd → wpX_typeNeeded q d) ∧ (t &&& nd = 0 ↔ ¬ mr_nd d t) := by
  unfold mr_nd
  rcases hd with rfl | rfl | rfl | rfl | rfl | rfl
  · refine ⟨1, fun q hq => br_t (by decide) hq, ?_⟩
    rcases ht with h | h | h | h | h | h <;> subst h <;> decide
  · refine ⟨2, fun q hq => br_f (by decide) (br_f (by decide) (br_t rfl hq)), ?_⟩
    rcases ht with h | h | h | h | h | h <;> subst h <;> decide
  · refine ⟨2, fun q hq => br_f (by decide) (br_f (by decide) (br_f (by decide) (br_t rfl hq))), ?_⟩
    rcases ht with h | h | h | h | h | h <;> subst h <;> decide
  · refine ⟨1, fun q hq => br_f (by decide) (br_f (by decide) (br_f (by decide) (br_f (by decide) (br_t rfl hq)))), ?_⟩
    rcases ht with h | h | h | h | h | h <;> subst h <;> decide
  · refine ⟨4, fun q hq => br_f (by decide) (br_f (by decide) (br_f (by decide) (br_f (by decide) (br_f (by decide) (br_t rfl hq))))), ?_⟩
    rcases ht with h | h | h | h | h | h <;> subst h <;> decide
  · refine ⟨1, fun q hq => br_f (by decide) (br_t (by decide) hq), ?_⟩
    rcases ht with h | h | h | h | h | h <;> subst h <;> decide
section
variable {W W' : Nat → Prop} {e off T P N Q al p n t m x c D : Nat} {l : Nat → Nat} {dc ic r0 r1 r2 r3 : Int32} {tx dx st S O ar lx h mi mk mp wl rc ty dy qi qk qp ly : Nat → Int32} {v w i k z : Int32}
variable {md mc : Nat} {d y3 cty cp kd : Int32} {tx' dx' st' S' O' h' : Nat → Int32}
theorem xm_127 {post : Int32 → Prop} (hD : D < 16) (h9 : n ≤ 9) (hl : lx D = nI n) (ho : n ≤ mr_oc mk (D * 9) n + 1) (hQ : Q ≤ 8) (h0 : mr_oc mk (D * 9) n < Q → post 0) (h4 : Q ≤ mr_oc mk (D * 9) n → post (-4)) : wX_sendRefusal_127 post (nI D) (nI T) (nI P) (nI N) (nI Q) dc (nI al) ic tx dx st S O ar lx h mi mk mp wl rc := by
  have o := mr_ocle mk (D * 9) n
  unfold wX_sendRefusal_127
  refine xm_oc hD h9 hl ho ?_
  by_cases z : mr_oc mk (D * 9) n < Q
  · exact br_t (nI_lt z (by omega)) (h0 z)
  · exact br_f (nI_nlt (by omega) (by omega)) (h4 (by omega))
theorem xm_91n {post : Int32 → Prop} (ht : t < T) (hT : T ≤ 4) (hm : md < N) (hN : N ≤ 8) (hd : dx (t * 8 + md) = nI D) (hcp : ∀ q : Int32 → Prop, q cp → wpX_namePort q (nI T, nI P, nI N, nI Q, dc, nI al, ic, tx, dx, st, S, O, ar, lx, h, mi, mk, mp, wl, rc) (nI t) y3) (h1 : ¬ d = 1) (hq : wX_sendRefusal_127 post (nI D) (nI T) (nI P) (nI N) (nI Q) dc (nI al) ic tx dx st S O ar lx h mi mk mp wl rc) : wX_sendRefusal_91 post (nI t) (nI (md + 1)) y3 d (nI T) (nI P) (nI N) (nI Q) dc (nI al) ic tx dx st S O ar lx h mi mk mp wl rc := by
  unfold wX_sendRefusal_91
  refine xm_np1 ht hT hm hN ?_
  rw [hd]
  exact hcp _ (br_f h1 hq)
theorem xm_91c {post : Int32 → Prop} {r : Nat} (ht : t < T) (hT : T ≤ 4) (hm : md < N) (hN : N ≤ 8) (hd : dx (t * 8 + md) = nI D) (hcp : ∀ q : Int32 → Prop, q (nI c) → wpX_namePort q (nI T, nI P, nI N, nI Q, dc, nI al, ic, tx, dx, st, S, O, ar, lx, h, mi, mk, mp, wl, rc) (nI t) y3) (hc : c < 16) (hD : mr_rc st h r D) (h6 : mr_on h c r D → post (-6)) (h0 : ¬ mr_on h c r D → wX_sendRefusal_127 post (nI D) (nI T) (nI P) (nI N) (nI Q) dc (nI al) ic tx dx st S O ar lx h mi mk mp wl rc) : wX_sendRefusal_91 post (nI t) (nI (md + 1)) y3 1 (nI T) (nI P) (nI N) (nI Q) dc (nI al) ic tx dx st S O ar lx h mi mk mp wl rc := by
  unfold wX_sendRefusal_91
  refine xm_np1 ht hT hm hN ?_
  rw [hd]
  refine hcp _ (br_t rfl ?_)
  exact xm_cy hc hD (fun a => br_f mr_10 (h6 a)) (fun a => br_t rfl (h0 a))
theorem xm_71 {post : Int32 → Prop} {y2 : Int32} (hs : (d = 2 ∨ d = 5) → y3 = y2 → post (-3)) (hq : ¬ ((d = 2 ∨ d = 5) ∧ y3 = y2) → wX_sendRefusal_91 post (nI t) y2 y3 d (nI T) (nI P) (nI N) (nI Q) dc (nI al) ic tx dx st S O ar lx h mi mk mp wl rc) : wX_sendRefusal_71 post (nI t) y2 y3 d (nI T) (nI P) (nI N) (nI Q) dc (nI al) ic tx dx st S O ar lx h mi mk mp wl rc := by
  have G : (d = 2 ∨ d = 5) → wX_sendRefusal_83 post (nI t) y2 y3 d (nI T) (nI P) (nI N) (nI Q) dc (nI al) ic tx dx st S O ar lx h mi mk mp wl rc := by
    intro a
    by_cases z : y3 = y2
    · exact br_t z (hs a z)
    · exact br_f z (hq (fun b => z b.2))
  by_cases z1 : d = 2
  · exact br_t z1 (G (Or.inl z1))
  · by_cases z2 : d = 5
    · exact br_f z1 (br_t z2 (G (Or.inr z2)))
    · exact br_f z1 (br_f z2 (hq (fun b => b.1.elim z1 z2)))
theorem xm_srT {post : Int32 → Prop} {y y2 y4 : Int32} (hy : y < 0 ∨ nI T ≤ y) (hp : post (-1)) : wpX_sendRefusal post (nI T, nI P, nI N, nI Q, dc, nI al, ic, tx, dx, st, S, O, ar, lx, h, mi, mk, mp, wl, rc) y y2 y3 y4 := by
  unfold wpX_sendRefusal
  exact xm_task0 hy (br_t rfl hp)
theorem xm_srN {post : Int32 → Prop} {y2 y4 : Int32} (ht : t < T) (hT : T ≤ 4) (hy : y2 < 1 ∨ nI N < y2) (hp : post (-2)) : wpX_sendRefusal post (nI T, nI P, nI N, nI Q, dc, nI al, ic, tx, dx, st, S, O, ar, lx, h, mi, mk, mp, wl, rc) (nI t) y2 y3 y4 := by
  unfold wpX_sendRefusal
  refine xm_task1 ht hT (br_f mr_10 ?_)
  exact xm_nt0 ht hT hy (br_t (by decide) hp)
theorem xm_srF {post : Int32 → Prop} {y4 : Int32} (ht : t < T) (hT : T ≤ 4) (hm : md < N) (hN : N ≤ 8) (h0 : tx (t * 8 + md) &&& 6 = 0) (hp : post (-2)) : wpX_sendRefusal post (nI T, nI P, nI N, nI Q, dc, nI al, ic, tx, dx, st, S, O, ar, lx, h, mi, mk, mp, wl, rc) (nI t) (nI (md + 1)) y3 y4 := by
  unfold wpX_sendRefusal
  refine xm_task1 ht hT (br_f mr_10 ?_)
  exact xm_nt1 ht hT hm hN (br_t h0 hp)
theorem xm_srD {post : Int32 → Prop} {y4 : Int32} (ht : t < T) (hT : T ≤ 4) (hm : md < N) (hN : N ≤ 8) (h0 : ¬ tx (t * 8 + md) &&& 6 = 0) (hy : y4 < 0 ∨ ¬ y4 ≤ 6) (hp : post (-3)) : wpX_sendRefusal post (nI T, nI P, nI N, nI Q, dc, nI al, ic, tx, dx, st, S, O, ar, lx, h, mi, mk, mp, wl, rc) (nI t) (nI (md + 1)) y3 y4 := by
  unfold wpX_sendRefusal
  refine xm_task1 ht hT (br_f mr_10 ?_)
  refine xm_nt1 ht hT hm hN (br_f h0 ?_)
  by_cases z : y4 < 0
  · exact br_t z hp
  · exact br_f z (br_f (hy.resolve_left z) hp)
theorem xm_sr0 {post : Int32 → Prop} (ht : t < T) (hT : T ≤ 4) (hm : md < N) (hN : N ≤ 8) (h0 : ¬ tx (t * 8 + md) &&& 6 = 0) (hct : ∀ q : Int32 → Prop, q cty → wpX_nameType q (nI T, nI P, nI N, nI Q, dc, nI al, ic, tx, dx, st, S, O, ar, lx, h, mi, mk, mp, wl, rc) (nI t) y3) (hq : wX_sendRefusal_71 post (nI t) (nI (md + 1)) y3 0 (nI T) (nI P) (nI N) (nI Q) dc (nI al) ic tx dx st S O ar lx h mi mk mp wl rc) : wpX_sendRefusal post (nI T, nI P, nI N, nI Q, dc, nI al, ic, tx, dx, st, S, O, ar, lx, h, mi, mk, mp, wl, rc) (nI t) (nI (md + 1)) y3 0 := by
  unfold wpX_sendRefusal
  refine xm_task1 ht hT (br_f mr_10 ?_)
  refine xm_nt1 ht hT hm hN (br_f h0 (br_f (by decide) (br_t (by decide) ?_)))
  exact hct _ (br_t rfl hq)
theorem xm_sr6 {post : Int32 → Prop} (ht : t < T) (hT : T ≤ 4) (hm : md < N) (hN : N ≤ 8) (h0 : ¬ tx (t * 8 + md) &&& 6 = 0) (hd : mr_d16 d) (hk : mr_tok cty) (hct : ∀ q : Int32 → Prop, q cty → wpX_nameType q (nI T, nI P, nI N, nI Q, dc, nI al, ic, tx, dx, st, S, O, ar, lx, h, mi, mk, mp, wl, rc) (nI t) y3) (h2 : ¬ mr_nd d cty → post (-2)) (hq : mr_nd d cty → wX_sendRefusal_71 post (nI t) (nI (md + 1)) y3 d (nI T) (nI P) (nI N) (nI Q) dc (nI al) ic tx dx st S O ar lx h mi mk mp wl rc) : wpX_sendRefusal post (nI T, nI P, nI N, nI Q, dc, nI al, ic, tx, dx, st, S, O, ar, lx, h, mi, mk, mp, wl, rc) (nI t) (nI (md + 1)) y3 d := by
  have d1 : ¬ d < 0 ∧ d ≤ 6 ∧ ¬ d = 0 := by
    rcases hd with rfl | rfl | rfl | rfl | rfl | rfl <;> decide
  obtain ⟨nd, n1, n2⟩ := xm_nd hd hk
  unfold wpX_sendRefusal
  refine xm_task1 ht hT (br_f mr_10 ?_)
  refine xm_nt1 ht hT hm hN (br_f h0 (br_f d1.1 (br_t d1.2.1 ?_)))
  refine hct _ (br_f d1.2.2 (n1 _ ?_))
  by_cases z : mr_nd d cty
  · exact br_f (fun a => n2.mp a z) (hq z)
  · exact br_t (n2.mpr z) (h2 z)
/-! what is taken from the carried name -/
theorem xm_tk1 {post : SX → Prop} (hc : n < 32) (h16 : c < 16) (hv : (tx n = 1 ∧ v = 0 ∧ w = -1) ∨ (tx n = 3 ∧ v = 2 ∧ w = dx n)) (hp : post (nI T, nI P, nI N, nI Q, dc, nI al, ic, upd tx n v, upd dx n w, upd st c 2, S, O, ar, lx, upd h c z, mi, mk, mp, wl, rc)) : wpX_takeCarried post (nI T, nI P, nI N, nI Q, dc, nI al, ic, tx, dx, st, S, O, ar, lx, h, mi, mk, mp, wl, rc) (nI n) (nI c) 1 z := by
  have v1 : vp_in (nI c) 16 := vp_in_nI h16 (by omega)
  have c1 : (nI c).toNatClampNeg = c := nI_clamp (by omega)
  unfold wpX_takeCarried
  refine br_f (by decide) (br_f (by decide) (br_t rfl ?_))
  rcases hv with ⟨a, rfl, rfl⟩ | ⟨a, rfl, rfl⟩
  · exact xm_lose0 hc (by rw [a]; decide) ⟨v1, nm_r (e' := upd st c 2) (by rw [c1]) ⟨v1, nm_r (e' := upd h c z) (by rw [c1]) hp⟩⟩
  · rw [mr_ui rfl] at hp
    exact xm_lose1 (w := 2) hc (by rw [a]; decide) (by decide) ⟨v1, nm_r (e' := upd st c 2) (by rw [c1]) ⟨v1, nm_r (e' := upd h c z) (by rw [c1]) hp⟩⟩
theorem xm_tk2 {post : SX → Prop} {y : Int32} (hc : n < 32) (hv : (tx n = 2 ∧ v = 0 ∧ w = -1) ∨ (tx n = 3 ∧ v = 1 ∧ w = dx n)) (hp : post (nI T, nI P, nI N, nI Q, dc, nI al, ic, upd tx n v, upd dx n w, st, S, O, ar, lx, h, mi, mk, mp, wl, rc)) : wpX_takeCarried post (nI T, nI P, nI N, nI Q, dc, nI al, ic, tx, dx, st, S, O, ar, lx, h, mi, mk, mp, wl, rc) (nI n) y 2 z := by
  unfold wpX_takeCarried
  refine br_f (by decide) (br_f (by decide) (br_f (by decide) (br_t rfl ?_)))
  rcases hv with ⟨a, rfl, rfl⟩ | ⟨a, rfl, rfl⟩
  · exact xm_lose0 hc (by rw [a]; decide) hp
  · rw [mr_ui rfl] at hp
    exact xm_lose1 (w := 1) hc (by rw [a]; decide) (by decide) hp
theorem xm_tk3 {post : SX → Prop} {y : Int32} (h16 : c < 16) (hd : d = 3 ∨ d = 4) (hp : post (nI T, nI P, nI N, nI Q, dc, nI al, ic, tx, dx, st, upd S c (S c + 1), O, ar, lx, h, mi, mk, mp, wl, rc)) : wpX_takeCarried post (nI T, nI P, nI N, nI Q, dc, nI al, ic, tx, dx, st, S, O, ar, lx, h, mi, mk, mp, wl, rc) y (nI c) d z := by
  have v1 : vp_in (nI c) 16 := vp_in_nI h16 (by omega)
  have c1 : (nI c).toNatClampNeg = c := nI_clamp (by omega)
  have G : wX_takeCarried_73 post (nI c) (nI T) (nI P) (nI N) (nI Q) dc (nI al) ic tx dx st S O ar lx h mi mk mp wl rc := ⟨v1, v1, nm_r (e' := upd S c (S c + 1)) (by rw [c1]) hp⟩
  unfold wpX_takeCarried
  rcases hd with rfl | rfl
  · exact br_f (by decide) (br_f (by decide) (br_f (by decide) (br_f (by decide) (br_t rfl G))))
  · exact br_f (by decide) (br_f (by decide) (br_f (by decide) (br_f (by decide) (br_f (by decide) (br_t rfl G)))))
theorem xm_tk5 {post : SX → Prop} {y : Int32} (hc : n < 32) (hp : post (nI T, nI P, nI N, nI Q, dc, nI al, ic, upd tx n 0, upd dx n (-1), st, S, O, ar, lx, h, mi, mk, mp, wl, rc)) : wpX_takeCarried post (nI T, nI P, nI N, nI Q, dc, nI al, ic, tx, dx, st, S, O, ar, lx, h, mi, mk, mp, wl, rc) (nI n) y 5 z := by
  unfold wpX_takeCarried
  refine br_f (by decide) (br_f (by decide) (br_f (by decide) (br_f (by decide) (br_f (by decide) (br_f (by decide) (br_t rfl ?_))))))
  exact xm_free hc hp
theorem xm_tk6 {post : SX → Prop} {y : Int32} (h16 : c < 16) (hp : post (nI T, nI P, nI N, nI Q, dc, nI al, ic, tx, dx, st, S, upd O c (O c + 1), ar, lx, h, mi, mk, mp, wl, rc)) : wpX_takeCarried post (nI T, nI P, nI N, nI Q, dc, nI al, ic, tx, dx, st, S, O, ar, lx, h, mi, mk, mp, wl, rc) y (nI c) 6 z := by
  have v1 : vp_in (nI c) 16 := vp_in_nI h16 (by omega)
  have c1 : (nI c).toNatClampNeg = c := nI_clamp (by omega)
  unfold wpX_takeCarried
  exact br_f (by decide) (br_f (by decide) (br_f (by decide) (br_f (by decide) (br_f (by decide) (br_f (by decide) (br_f (by decide) (br_t rfl ⟨v1, v1, nm_r (e' := upd O c (O c + 1)) (by rw [c1]) hp⟩)))))))
theorem xm_ko {post : Int32 → Prop} (hd : (d = 0 ∧ kd = 0) ∨ (d = 1 ∧ kd = 3) ∨ ((d = 2 ∨ d = 3 ∨ d = 4) ∧ kd = 1) ∨ ((d = 5 ∨ d = 6) ∧ kd = 2)) (hp : post kd) : wpX_kindOf post d := by
  unfold wpX_kindOf
  rcases hd with ⟨rfl, rfl⟩ | ⟨rfl, rfl⟩ | ⟨rfl | rfl | rfl, rfl⟩ | ⟨rfl | rfl, rfl⟩
  · exact br_t (by decide) hp
  · exact br_f (by decide) (br_f (by decide) (br_t rfl hp))
  · exact br_f (by decide) (br_f (by decide) (br_f (by decide) (br_t rfl hp)))
  · exact br_f (by decide) (br_f (by decide) (br_f (by decide) (br_f (by decide) (br_t rfl hp))))
  · exact br_f (by decide) (br_f (by decide) (br_f (by decide) (br_f (by decide) (br_f (by decide) (br_t rfl hp)))))
  · exact br_f (by decide) (br_f (by decide) (br_f (by decide) (br_f (by decide) (br_f (by decide) (br_f (by decide) (br_t rfl hp))))))
  · exact br_f (by decide) (br_f (by decide) (br_f (by decide) (br_f (by decide) (br_f (by decide) (br_f (by decide) (br_f (by decide) (br_t rfl hp)))))))
theorem xm_94 {post : Int32 → SX → Prop} (hD : D < 16) (hn : n ≤ 8) (hl : lx D = nI n) (hd : (d = 0 ∧ kd = 0) ∨ (d = 1 ∧ kd = 3) ∨ ((d = 2 ∨ d = 3 ∨ d = 4) ∧ kd = 1) ∨ ((d = 5 ∨ d = 6) ∧ kd = 2)) (hp : post (ic + 1) (nI T, nI P, nI N, nI Q, dc, nI al, ic + 1, tx, dx, st, S, O, ar, upd lx D (nI (n + 1)), h, upd mi (D * 9 + n) (ic + 1), upd mk (D * 9 + n) kd, upd mp (D * 9 + n) z, wl, rc)) : wX_send_94 post d (nI D) z (nI T) (nI P) (nI N) (nI Q) dc (nI al) ic tx dx st S O ar lx h mi mk mp wl rc := by
  unfold wX_send_94
  refine xm_ko hd ?_
  exact xm_append hD hn hl hp
theorem xm_580 {post : Int32 → SX → Prop} (hp : wX_send_94 post 0 (nI D) (-1) (nI T) (nI P) (nI N) (nI Q) dc (nI al) ic tx dx st S O ar lx h mi mk mp wl rc) : wX_send_58 post (nI t) y3 0 (nI D) (nI T) (nI P) (nI N) (nI Q) dc (nI al) ic tx dx st S O ar lx h mi mk mp wl rc := br_t rfl hp
theorem xm_586 {post : Int32 → SX → Prop} (ht : t < 4) (hm : mc < 8) (hd : mr_d16 d) (hc : dx (t * 8 + mc) = nI c) (hX : ∀ q : SX → Prop, q (nI T, nI P, nI N, nI Q, dc, nI al, ic, tx', dx', st', S', O', ar, lx, h', mi, mk, mp, wl, rc) → wpX_takeCarried q (nI T, nI P, nI N, nI Q, dc, nI al, ic, tx, dx, st, S, O, ar, lx, h, mi, mk, mp, wl, rc) (nI (t * 8 + mc)) (nI c) d (nI D)) (hp : wX_send_94 post d (nI D) (nI c) (nI T) (nI P) (nI N) (nI Q) dc (nI al) ic tx' dx' st' S' O' ar lx h' mi mk mp wl rc) : wX_send_58 post (nI t) (nI (mc + 1)) d (nI D) (nI T) (nI P) (nI N) (nI Q) dc (nI al) ic tx dx st S O ar lx h mi mk mp wl rc := by
  have d0 : ¬ d = 0 := by
    rcases hd with rfl | rfl | rfl | rfl | rfl | rfl <;> decide
  refine br_f d0 ?_
  refine xm_cell ⟨vp_in_nI (by omega) (by omega), nm_r (e' := nI c) (by rw [nI_clamp (by omega)]; exact hc) ?_⟩
  exact hX _ hp
theorem xm_sendE {post : Int32 → SX → Prop} {y y2 y4 : Int32} (hs : ∀ q : Int32 → Prop, q v → wpX_sendRefusal q (nI T, nI P, nI N, nI Q, dc, nI al, ic, tx, dx, st, S, O, ar, lx, h, mi, mk, mp, wl, rc) y y2 y3 y4) (hv : ¬ v = 0) (hp : post v (nI T, nI P, nI N, nI Q, dc, nI al, ic, tx, dx, st, S, O, ar, lx, h, mi, mk, mp, wl, rc)) : wpX_send post (nI T, nI P, nI N, nI Q, dc, nI al, ic, tx, dx, st, S, O, ar, lx, h, mi, mk, mp, wl, rc) y y2 y3 y4 := by
  unfold wpX_send
  exact hs _ (br_f hv hp)
theorem xm_sendA {post : Int32 → SX → Prop} (ht : t < 4) (hm : md < 8) (hs : ∀ q : Int32 → Prop, q 0 → wpX_sendRefusal q (nI T, nI P, nI N, nI Q, dc, nI al, ic, tx, dx, st, S, O, ar, lx, h, mi, mk, mp, wl, rc) (nI t) (nI (md + 1)) y3 d) (h4 : ¬ tx (t * 8 + md) = 4) (hd : dx (t * 8 + md) = nI D) (hp : wX_send_58 post (nI t) y3 d (nI D) (nI T) (nI P) (nI N) (nI Q) dc (nI al) ic tx dx st S O ar lx h mi mk mp wl rc) : wpX_send post (nI T, nI P, nI N, nI Q, dc, nI al, ic, tx, dx, st, S, O, ar, lx, h, mi, mk, mp, wl, rc) (nI t) (nI (md + 1)) y3 d := by
  have v1 : vp_in (nI (t * 8 + md)) 32 := vp_in_nI (by omega) (by omega)
  have c1 : (nI (t * 8 + md)).toNatClampNeg = t * 8 + md := nI_clamp (by omega)
  unfold wpX_send
  refine hs _ (br_t rfl ?_)
  exact xm_cell ⟨v1, nm_r (e' := nI D) (by rw [c1]; exact hd) ⟨v1, br_f (by rw [c1]; exact h4) hp⟩⟩
theorem xm_sendB {post : Int32 → SX → Prop} (ht : t < 4) (hm : md < 8) (hs : ∀ q : Int32 → Prop, q 0 → wpX_sendRefusal q (nI T, nI P, nI N, nI Q, dc, nI al, ic, tx, dx, st, S, O, ar, lx, h, mi, mk, mp, wl, rc) (nI t) (nI (md + 1)) y3 d) (h4 : tx (t * 8 + md) = 4) (hd : dx (t * 8 + md) = nI D) (hD : D < 16) (hl : mr_lv st D) (hp : wX_send_58 post (nI t) y3 d (nI D) (nI T) (nI P) (nI N) (nI Q) dc (nI al) ic (upd tx (t * 8 + md) 0) (upd dx (t * 8 + md) (-1)) st S (upd O D (O D - 1)) ar lx h mi mk mp wl rc) : wpX_send post (nI T, nI P, nI N, nI Q, dc, nI al, ic, tx, dx, st, S, O, ar, lx, h, mi, mk, mp, wl, rc) (nI t) (nI (md + 1)) y3 d := by
  have v1 : vp_in (nI (t * 8 + md)) 32 := vp_in_nI (by omega) (by omega)
  have c1 : (nI (t * 8 + md)).toNatClampNeg = t * 8 + md := nI_clamp (by omega)
  unfold wpX_send
  refine hs _ (br_t rfl ?_)
  refine xm_cell ⟨v1, nm_r (e' := nI D) (by rw [c1]; exact hd) ⟨v1, br_t (by rw [c1]; exact h4) ?_⟩⟩
  refine xm_free (by omega) ?_
  exact xm_so1 hD hl hp
end
