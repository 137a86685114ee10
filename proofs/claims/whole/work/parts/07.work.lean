/-! shifting a queue step by step; who holds a port in transit; the worklist of the dying -/
theorem mr_Sh0 {p : Nat} {a : Nat → Int32} : mr_Sh p 0 a a := ⟨fun i hi => absurd hi (by omega), fun _ _ => rfl⟩
theorem mr_ShS {p i : Nat} {a a' : Nat → Int32} (hs : mr_Sh p i a a') : mr_Sh p (i + 1) a (upd a' (p * 9 + i) (a' (p * 9 + (i + 1)))) := by
  refine ⟨fun j hj => ?_, fun c hc => ?_⟩
  · by_cases e : j = i
    · rw [e, pk_us]
      exact hs.2 _ (by omega)
    · rw [pk_un (by omega)]
      exact hs.1 j (by omega)
  · rw [pk_un (by omega)]
    exact hs.2 c (by omega)
/-- f lists the worklist: tail entries, the first hd of them are dead, W are the others -/
def mr_WI (W : Nat → Prop) (al hd tail : Nat) (st wl : Nat → Int32) (f : Nat → Nat) : Prop := hd ≤ tail ∧ (∀ j, j < tail → wl j = nI (f j) ∧ f j < al) ∧ (∀ i j, i < tail → j < tail → f i = f j → i = j) ∧ (∀ j, j < hd → st (f j) = 3) ∧ (∀ x, x < 16 → (W x ↔ ∃ j, hd ≤ j ∧ j < tail ∧ f j = x))
section
variable {W W' : Nat → Prop} {e off T P N Q al p n hd tail : Nat} {l : Nat → Nat} {tx dx st S O ar lx h mi mk mp ty dy qi qk qp ly wl : Nat → Int32} {f : Nat → Nat} {v w i k z : Int32}
theorem mr_WI16 (hal : al ≤ 16) (hw : mr_WI W al hd tail st wl f) : tail ≤ 16 :=
  mr_pg 16 tail f (fun j hj => Nat.lt_of_lt_of_le (hw.2.1 j hj).2 hal) hw.2.2.1
theorem mr_WIw (hw : mr_WI W al hd tail st wl f) (hc : ∀ x, x < 16 → (W x ↔ W' x)) : mr_WI W' al hd tail st wl f :=
  ⟨hw.1, hw.2.1, hw.2.2.1, hw.2.2.2.1, fun x hx => (hc x hx).symm.trans (hw.2.2.2.2 x hx)⟩
/-- the next port dies -/
theorem mr_WId (hal : al ≤ 16) (hw : mr_WI W al hd tail st wl f) (ht : hd < tail) : mr_WI (fun x => W x ∧ x ≠ f hd) al (hd + 1) tail (upd st (f hd) 3) wl f := by
  obtain ⟨w0, w1, w2, w3, w4⟩ := hw
  refine ⟨ht, w1, w2, fun j hj => ?_, fun x hx => ?_⟩
  · by_cases e : j = hd
    · rw [e, pk_us]
    · have ne : f j ≠ f hd := fun q => e (w2 j hd (by omega) ht q)
      rw [pk_un ne]
      exact w3 j (by omega)
  · constructor
    · intro q
      obtain ⟨j, a, b, c⟩ := (w4 x hx).mp q.1
      have : j ≠ hd := fun r => q.2 (by rw [← c, r])
      exact ⟨j, by omega, b, c⟩
    · intro q
      obtain ⟨j, a, b, c⟩ := q
      refine ⟨(w4 x hx).mpr ⟨j, by omega, b, c⟩, fun r => ?_⟩
      have := w2 j hd b ht (c.trans r)
      omega
/-- a port in transit comes onto the worklist -/
theorem mr_WIp {x : Nat} (hal : al ≤ 16) (hw : mr_WI W al hd tail st wl f) (hx : x < al) (hs : st x = 2) (hn : ¬ W x) : tail < 16 ∧ mr_WI (fun y => W y ∨ y = x) al hd (tail + 1) st (upd wl tail (nI x)) (fun j => if j = tail then x else f j) := by
  obtain ⟨w0, w1, w2, w3, w4⟩ := hw
  have fr : ∀ j, j < tail → f j ≠ x := by
    intro j hj q
    by_cases c : j < hd
    · have := w3 j c
      rw [q, hs] at this
      exact absurd this (by decide)
    · exact hn ((w4 x (by omega)).mpr ⟨j, by omega, hj, q⟩)
  have R : mr_WI (fun y => W y ∨ y = x) al hd (tail + 1) st (upd wl tail (nI x)) (fun j => if j = tail then x else f j) := by
    refine ⟨by omega, fun j hj => ?_, fun i j hi hj q => ?_, fun j hj => ?_, fun y hy => ?_⟩
    · show upd wl tail (nI x) j = nI (if j = tail then x else f j) ∧ (if j = tail then x else f j) < al
      by_cases c : j = tail
      · rw [if_pos c, c, pk_us]
        exact ⟨rfl, hx⟩
      · rw [if_neg c, pk_un c]
        exact w1 j (by omega)
    · have q' : (if i = tail then x else f i) = (if j = tail then x else f j) := q
      by_cases c1 : i = tail
      · by_cases c2 : j = tail
        · omega
        · rw [if_pos c1, if_neg c2] at q'
          exact absurd q'.symm (fr j (by omega))
      · by_cases c2 : j = tail
        · rw [if_neg c1, if_pos c2] at q'
          exact absurd q' (fr i (by omega))
        · rw [if_neg c1, if_neg c2] at q'
          exact w2 i j (by omega) (by omega) q'
    · show st (if j = tail then x else f j) = 3
      rw [if_neg (by omega)]
      exact w3 j hj
    · constructor
      · intro q
        rcases q with q | q
        · obtain ⟨j, a, b, c⟩ := (w4 y hy).mp q
          exact ⟨j, a, by omega, by show (if j = tail then x else f j) = y; rw [if_neg (by omega)]; exact c⟩
        · exact ⟨tail, w0, by omega, by show (if tail = tail then x else f tail) = y; rw [if_pos rfl]; exact q.symm⟩
      · intro q
        obtain ⟨j, a, b, c⟩ := q
        have c' : (if j = tail then x else f j) = y := c
        by_cases c1 : j = tail
        · rw [if_pos c1] at c'
          exact Or.inr c'.symm
        · rw [if_neg c1] at c'
          exact Or.inl ((w4 y hy).mpr ⟨j, a, by omega, c'⟩)
  have := mr_WI16 hal R
  exact ⟨by omega, R⟩
theorem mr_lval (hP : mr_P al st S O ar) (hp : p < 16) (hl : mr_lv st p) : p < al := by
  by_cases c : al ≤ p
  · have := (hP p hp).1 c
    unfold mr_lv at hl
    rw [this] at hl
    exact absurd hl (by decide)
  · omega
theorem mr_hold {x : Nat} (hI : mr_I T N Q al (fun _ => False) 16 ty dy st S O ar h qk qp l) (hx : x < 16) (hs : st x = 2) : ∃ q, q < al ∧ h x = nI q ∧ (∃ i, i < l q ∧ qk (q * 9 + i) = 3 ∧ qp (q * 9 + i) = nI x) ∧ (∀ q' i', q' < 16 → i' < l q' → qk (q' * 9 + i') = 3 → qp (q' * 9 + i') = nI x → q' = q) := by
  obtain ⟨iN, iU, iP, iL, iO, iM, iV, iT, iA⟩ := hI
  rcases iT x hx hs with w | ⟨q, i, a1, a2, a3, a4, a5⟩
  · exact absurd w id
  · have hq : q < al := by
      by_cases c : mr_lv st q
      · exact mr_lval iP a1 c
      · have := iL q a1 (by omega) c
        omega
    refine ⟨q, hq, a5, ⟨i, a2, a3, a4⟩, fun q' i' b1 b2 b3 b4 => ?_⟩
    exact (iV q' i' q i b1 b2 a1 a2 b3 a3 (b4.trans a4.symm)).1
theorem mr_Rw1 {y : Nat} (hR : mr_R (fun _ => False) e off T P N Q al l tx dx st S O ar lx h mi mk mp ty dy qi qk qp ly) (hs : ¬ st y = 2) : mr_R (fun x => x = y) e off T P N Q al l tx dx st S O ar lx h mi mk mp ty dy qi qk qp ly := by
  obtain ⟨hB, hNN, hX, hY, g1, g2, g3, hb, iN, iU, iP, iL, iO, iM, iV, iT, iA⟩ := hR
  exact ⟨hB, hNN, hX, hY, g1, g2, g3, hb, iN, iU, iP, iL, iO, mr_Mc iM (Nat.le_refl _) (fun x p hx a b c => ⟨a, b, fun d => hs (by rw [← d]; exact a)⟩), iV, mr_Tc iT (fun x hx a => Or.inr ⟨a, fun q => absurd q id, rfl⟩), iA⟩
end
