/-! the invariant as a whole, and what a store does to it -/
def mr_I (T N Q al : Nat) (W : Nat → Prop) (e : Nat) (ty dy st S O ar h qk qp : Nat → Int32) (l : Nat → Nat) : Prop := mr_N T N al st ty dy ∧ mr_U ty dy ∧ mr_P al st S O ar ∧ mr_L e st l ∧ mr_O Q ar qk l ∧ mr_M al W st h qk qp l ∧ mr_V qk qp l ∧ mr_T W st h qk qp l ∧ mr_A st h
/-- a' is a with the n cells behind cell p * 9 moved down by one -/
def mr_Sh (p n : Nat) (a a' : Nat → Int32) : Prop := (∀ i, i < n → a' (p * 9 + i) = a (p * 9 + (i + 1))) ∧ (∀ c, (c < p * 9 ∨ p * 9 + n ≤ c) → a' c = a c)
def mr_kT (y : Nat) (t d : Int32) : Int32 := if d = nI y then (if t = 1 then 0 else 8) else t
def mr_kD (y : Nat) (t d : Int32) : Int32 := if d = nI y ∧ t = 1 then -1 else d
section
variable {T N Q al al' e p : Nat} {W W' : Nat → Prop} {st st' S O ar h h' ty dy ty' dy' qk qp qk' qp' : Nat → Int32} {l : Nat → Nat} {v w k z : Int32}
theorem mr_IW (hal : al ≤ 16) (hI : mr_I T N Q al W e ty dy st S O ar h qk qp l) (hw : ∀ x, x < 16 → (W x ↔ W' x)) : mr_I T N Q al W' e ty dy st S O ar h qk qp l := by
  obtain ⟨iN, iU, iP, iL, iO, iM, iV, iT, iA⟩ := hI
  exact ⟨iN, iU, iP, iL, iO, mr_Mc iM (Nat.le_refl _) (fun x p hx a b c => ⟨a, b, fun d => c ((hw x (by omega)).mpr d)⟩), iV, mr_Tc iT (fun x hx a => Or.inr ⟨a, (hw x hx).mp, rfl⟩), iA⟩
theorem mr_l9 (hQ : Q ≤ 8) (hI : mr_I T N Q al W e ty dy st S O ar h qk qp l) {q : Nat} (hq : q < 16) : l q ≤ 9 := by
  have := hI.2.2.2.2.1 q hq
  omega
theorem mr_app (hal : al ≤ 16) (hQ : Q ≤ 8) (hI : mr_I T N Q al W e ty dy st S O ar h qk qp l) (hp : p < 16) (hl : mr_lv st p) (hm : ((k = 0 ∨ k = 4) ∧ z = -1) ∨ ∃ x, x < al ∧ z = nI x ∧ (k = 1 ∨ k = 2 ∨ (k = 3 ∧ st x = 2 ∧ h x = nI p ∧ W x))) (ho : (k = 4 ∧ ar p = 0 ∧ l p = mr_oc qk (p * 9) (l p)) ∨ (¬ k = 4 ∧ mr_oc qk (p * 9) (l p) < Q)) : l p ≤ 8 ∧ mr_I T N Q al (fun x => W x ∧ ¬ (k = 3 ∧ z = nI x)) e ty dy st S O ar h (upd qk (p * 9 + l p) k) (upd qp (p * 9 + l p) z) (mr_ul l p (l p + 1)) := by
  obtain ⟨iN, iU, iP, iL, iO, iM, iV, iT, iA⟩ := hI
  have o := iO p hp
  have l8 : l p ≤ 8 := by
    rcases ho with ⟨_, _, z⟩ | ⟨_, z⟩
    · omega
    · omega
  have l9 : ∀ q, q < 16 → l q ≤ 9 := fun q hq => by
    have := iO q hq
    omega
  have old : ∀ q i, q < 16 → i < l q → q * 9 + i ≠ p * 9 + l p := by
    intro q i hq hi z
    have h9 := l9 q hq
    have e1 : q = p := by omega
    rw [e1] at hi z
    omega
  have spl : ∀ q i, q < 16 → i < mr_ul l p (l p + 1) q → (q = p ∧ i = l p) ∨ i < l q := by
    intro q i hq hi
    by_cases e1 : q = p
    · rw [e1, mr_uls] at hi
      by_cases e2 : i = l p
      · exact Or.inl ⟨e1, e2⟩
      · exact Or.inr (by rw [e1]; omega)
    · rw [mr_uln e1] at hi
      exact Or.inr hi
  have fresh : k = 3 → ∀ q i, q < 16 → i < l q → qk (q * 9 + i) = 3 → qp (q * 9 + i) = z → False := by
    intro hk q i hq hi hk3 hz3
    rcases hm with m | ⟨x, hx, hz, kk⟩
    · rw [hk] at m
      exact absurd m.1 (by decide)
    · rw [hk] at kk
      rcases kk with kk | kk | kk
      · exact absurd kk (by decide)
      · exact absurd kk (by decide)
      · rcases iM q i hq hi with m | ⟨x', hx', hz', kk'⟩
        · rw [hk3] at m
          exact absurd m.1 (by decide)
        · rw [hk3] at kk'
          rcases kk' with kk' | kk' | kk'
          · exact absurd kk' (by decide)
          · exact absurd kk' (by decide)
          · have ee : x' = x := mr_inj (hz'.symm.trans (hz3.trans hz)) (by omega) (by omega)
            rw [ee] at kk'
            exact kk'.2.2.2 kk.2.2.2
  refine ⟨l8, iN, iU, iP, mr_Lu iL (Or.inl hl), ?_, ?_, ?_, ?_, iA⟩
  · intro q hq
    by_cases e1 : q = p
    · rw [e1, mr_uls, mr_ocs, pk_us, mr_occ (k := upd qk (p * 9 + l p) k) (k' := qk) (b' := p * 9) (fun i hi => pk_un (old p i hp hi))]
      rcases ho with ⟨a, b, c⟩ | ⟨a, b⟩
      · rw [if_pos a]
        exact ⟨by omega, by omega, fun z => absurd (b.symm.trans z) (by decide)⟩
      · rw [if_neg a]
        exact ⟨by omega, by omega, fun z => by have := o.2.2 z; omega⟩
    · rw [mr_uln e1, mr_occ (k := upd qk (p * 9 + l p) k) (k' := qk) (b' := q * 9) (fun i hi => pk_un (old q i hq hi))]
      exact iO q hq
  · intro q i hq hi
    rcases spl q i hq hi with ⟨e1, e2⟩ | hi'
    · rw [e1, e2, pk_us, pk_us]
      rcases hm with m | ⟨x, hx, hz, kk⟩
      · exact Or.inl m
      · refine Or.inr ⟨x, hx, hz, ?_⟩
        rcases kk with kk | kk | kk
        · exact Or.inl kk
        · exact Or.inr (Or.inl kk)
        · exact Or.inr (Or.inr ⟨kk.1, kk.2.1, kk.2.2.1, fun w => w.2 ⟨kk.1, hz⟩⟩)
    · rw [pk_un (old q i hq hi'), pk_un (old q i hq hi')]
      rcases iM q i hq hi' with m | ⟨x, hx, hz, kk⟩
      · exact Or.inl m
      · refine Or.inr ⟨x, hx, hz, ?_⟩
        rcases kk with kk | kk | kk
        · exact Or.inl kk
        · exact Or.inr (Or.inl kk)
        · exact Or.inr (Or.inr ⟨kk.1, kk.2.1, kk.2.2.1, fun w => kk.2.2.2 w.1⟩)
  · intro q i q' i' hq hi hq' hi' k1 k2 hd
    rcases spl q i hq hi with ⟨e1, e2⟩ | h1
    · rcases spl q' i' hq' hi' with ⟨e1', e2'⟩ | h2
      · exact ⟨e1.trans e1'.symm, e2.trans e2'.symm⟩
      · rw [e1, e2, pk_us] at k1
        rw [pk_un (old q' i' hq' h2)] at k2
        rw [e1, e2, pk_us, pk_un (old q' i' hq' h2)] at hd
        exact absurd (fresh k1 q' i' hq' h2 k2 hd.symm) id
    · rcases spl q' i' hq' hi' with ⟨e1', e2'⟩ | h2
      · rw [e1', e2', pk_us] at k2
        rw [pk_un (old q i hq h1)] at k1
        rw [e1', e2', pk_us, pk_un (old q i hq h1)] at hd
        exact absurd (fresh k2 q i hq h1 k1 hd) id
      · rw [pk_un (old q i hq h1)] at k1
        rw [pk_un (old q' i' hq' h2)] at k2
        rw [pk_un (old q i hq h1), pk_un (old q' i' hq' h2)] at hd
        exact iV q i q' i' hq h1 hq' h2 k1 k2 hd
  · intro x hx hs
    rcases iT x hx hs with w | ⟨q, i, a1, a2, a3, a4, a5⟩
    · by_cases c : k = 3 ∧ z = nI x
      · refine Or.inr ⟨p, l p, hp, by rw [mr_uls]; omega, by rw [pk_us]; exact c.1, by rw [pk_us]; exact c.2, ?_⟩
        rcases hm with m | ⟨x', hx', hz, kk⟩
        · rw [c.1] at m
          exact absurd m.1 (by decide)
        · rw [c.1] at kk
          rcases kk with kk | kk | kk
          · exact absurd kk (by decide)
          · exact absurd kk (by decide)
          · have ee : x' = x := mr_inj (hz.symm.trans c.2) (by omega) (by omega)
            rw [ee] at kk
            exact kk.2.2.1
      · exact Or.inl ⟨w, c⟩
    · refine Or.inr ⟨q, i, a1, ?_, by rw [pk_un (old q i a1 a2)]; exact a3, by rw [pk_un (old q i a1 a2)]; exact a4, a5⟩
      by_cases e1 : q = p
      · rw [e1, mr_uls]
        rw [e1] at a2
        omega
      · rw [mr_uln e1]
        exact a2
theorem mr_rem {n : Nat} (hQ : Q ≤ 8) (hI : mr_I T N Q al W e ty dy st S O ar h qk qp l) (hp : p < 16) (hn : l p = n + 1) (hk : mr_Sh p n qk qk') (hz : mr_Sh p n qp qp') (hl : mr_lv st p ∨ p = e) : mr_I T N Q al (fun x => W x ∨ (qk (p * 9) = 3 ∧ qp (p * 9) = nI x)) e ty dy st S O ar h qk' qp' (mr_ul l p n) := by
  obtain ⟨iN, iU, iP, iL, iO, iM, iV, iT, iA⟩ := hI
  have l9 : ∀ q, q < 16 → l q ≤ 9 := fun q hq => by
    have := iO q hq
    omega
  have n8 : n ≤ 8 := by
    have := l9 p hp
    omega
  have g : ∀ q i, q < 16 → i < mr_ul l p n q → ∃ j, j < l q ∧ qk' (q * 9 + i) = qk (q * 9 + j) ∧ qp' (q * 9 + i) = qp (q * 9 + j) ∧ (q = p → j = i + 1) ∧ (q ≠ p → j = i) := by
    intro q i hq hi
    by_cases e1 : q = p
    · rw [e1, mr_uls] at hi
      exact ⟨i + 1, by rw [e1]; omega, by rw [e1]; exact hk.1 i hi, by rw [e1]; exact hz.1 i hi, fun _ => rfl, fun z => absurd e1 z⟩
    · rw [mr_uln e1] at hi
      have h9 := l9 q hq
      have hc : q * 9 + i < p * 9 ∨ p * 9 + n ≤ q * 9 + i := by omega
      exact ⟨i, hi, hk.2 _ hc, hz.2 _ hc, fun z => absurd z e1, fun _ => rfl⟩
  refine ⟨iN, iU, iP, mr_Lu iL hl, ?_, ?_, ?_, ?_, iA⟩
  · intro q hq
    by_cases e1 : q = p
    · rw [e1, mr_uls]
      have c : mr_oc qk' (p * 9) n = mr_oc qk (p * 9 + 1) n := mr_occ (fun i hi => (hk.1 i hi).trans (congrArg qk (by omega)))
      have o := iO p hp
      have x := mr_ocle qk (p * 9 + 1) n
      rw [hn, mr_och] at o
      rw [c]
      by_cases h4 : qk (p * 9) = 4
      · rw [if_pos h4] at o
        exact ⟨by omega, by omega, fun ha => by have := o.2.2 ha; omega⟩
      · rw [if_neg h4] at o
        exact ⟨by omega, by omega, fun ha => by have := o.2.2 ha; omega⟩
    · rw [mr_uln e1, mr_occ (k := qk') (k' := qk) (b' := q * 9) (fun i hi => ?_)]
      · exact iO q hq
      · have h9 := l9 q hq
        exact hk.2 _ (by omega)
  · intro q i hq hi
    obtain ⟨j, hj, ek, ez, j1, j2⟩ := g q i hq hi
    rw [ek, ez]
    rcases iM q j hq hj with m | ⟨x, hx, hx2, kk⟩
    · exact Or.inl m
    · refine Or.inr ⟨x, hx, hx2, ?_⟩
      rcases kk with kk | kk | kk
      · exact Or.inl kk
      · exact Or.inr (Or.inl kk)
      · refine Or.inr (Or.inr ⟨kk.1, kk.2.1, kk.2.2.1, fun w => ?_⟩)
        rcases w with w | w
        · exact kk.2.2.2 w
        · have vv := iV q j p 0 hq hj hp (by omega) kk.1 w.1 (hx2.trans w.2.symm)
          have := j1 vv.1
          omega
  · intro q i q' i' hq hi hq' hi' k1 k2 hd
    obtain ⟨j, hj, ek, ez, j1, j2⟩ := g q i hq hi
    obtain ⟨j', hj', ek', ez', j1', j2'⟩ := g q' i' hq' hi'
    rw [ek] at k1
    rw [ek'] at k2
    rw [ez, ez'] at hd
    have vv := iV q j q' j' hq hj hq' hj' k1 k2 hd
    refine ⟨vv.1, ?_⟩
    by_cases e1 : q = p
    · have a := j1 e1
      have b := j1' (vv.1.symm.trans e1)
      omega
    · have a := j2 e1
      have b := j2' (fun z => e1 (vv.1.trans z))
      omega
  · intro x hx hs
    rcases iT x hx hs with w | ⟨q, j, a1, a2, a3, a4, a5⟩
    · exact Or.inl (Or.inl w)
    · by_cases e1 : q = p
      · subst e1
        cases j with
        | zero => exact Or.inl (Or.inr ⟨a3, a4⟩)
        | succ i =>
          have hi : i < n := by omega
          exact Or.inr ⟨q, i, a1, by rw [mr_uls]; exact hi, (hk.1 i hi).trans a3, (hz.1 i hi).trans a4, a5⟩
      · have h9 := l9 q a1
        have hc : q * 9 + j < p * 9 ∨ p * 9 + n ≤ q * 9 + j := by omega
        exact Or.inr ⟨q, j, a1, by rw [mr_uln e1]; exact a2, (hk.2 _ hc).trans a3, (hz.2 _ hc).trans a4, a5⟩
theorem mr_I0 (hI : mr_I T N Q al W e ty dy st S O ar h qk qp l) (ha : al < 16) : mr_I T N Q (al + 1) W e ty dy (upd st al 1) S O ar h qk qp l := by
  obtain ⟨iN, iU, iP, iL, iO, iM, iV, iT, iA⟩ := hI
  have h0 := (iP al ha).1 (Nat.le_refl _)
  refine ⟨mr_N1 iN (by omega), iU, mr_Ps iP (by omega) (by omega) (Or.inl rfl), mr_Ls iL (Or.inl rfl), iO, mr_Mc iM (by omega) (fun x p hx a b c => ⟨?_, b, c⟩), iV, mr_Tc iT (fun x hx a => Or.inr ⟨?_, id, rfl⟩), mr_A1 iA (by decide)⟩
  · rw [pk_un (by omega)]; exact a
  · by_cases ee : x = al
    · rw [ee, pk_us] at a
      exact absurd a (by decide)
    · rw [pk_un ee] at a
      exact a
theorem mr_I7 {c D m : Nat} (hal : al ≤ 16) (hI : mr_I T N Q al W e ty dy st S O ar h qk qp l) (hc : c < al) (hs : ¬ st c = 2) (hn : ∀ x, x < 36 → dy x = nI c → ¬ (ty x = 1 ∨ ty x = 3)) (hd : mr_rc st h m D) (ho : ¬ mr_on h c m D) : mr_I T N Q al (fun x => W x ∨ x = c) e ty dy (upd st c 2) S O ar (upd h c (nI D)) qk qp l := by
  obtain ⟨iN, iU, iP, iL, iO, iM, iV, iT, iA⟩ := hI
  refine ⟨mr_N2 iN hn, iU, mr_Ps iP (Nat.le_refl _) hc (Or.inr rfl), mr_Ls iL (Or.inr rfl), iO, mr_Mc iM (Nat.le_refl _) (fun x p hx a b f => ?_), iV, mr_Tc iT (fun x hx a => ?_), mr_A2 iA hd ho⟩
  · have ee : x ≠ c := fun z => hs (by rw [← z]; exact a)
    rw [pk_un ee, pk_un ee]
    exact ⟨a, b, fun g => g.elim f ee⟩
  · by_cases ee : x = c
    · exact Or.inl (Or.inr ee)
    · rw [pk_un ee] at a
      exact Or.inr ⟨a, Or.inl, pk_un ee⟩
theorem mr_I8 {c : Nat} (hal : al ≤ 16) (hI : mr_I T N Q al W e ty dy st S O ar h qk qp l) (hc : c < al) (hw : W c) : mr_I T N Q al (fun x => W x ∧ x ≠ c) e ty dy (upd st c 1) S O ar h qk qp l := by
  obtain ⟨iN, iU, iP, iL, iO, iM, iV, iT, iA⟩ := hI
  refine ⟨mr_N1 iN (Nat.le_refl _), iU, mr_Ps iP (Nat.le_refl _) hc (Or.inl rfl), mr_Ls iL (Or.inl rfl), iO, mr_Mc iM (Nat.le_refl _) (fun x p hx a b f => ?_), iV, mr_Tc iT (fun x hx a => ?_), mr_A1 iA (by decide)⟩
  · have ee : x ≠ c := fun z => f (by rw [z]; exact hw)
    rw [pk_un ee]
    exact ⟨a, b, fun g => f g.1⟩
  · by_cases ee : x = c
    · rw [ee, pk_us] at a
      exact absurd a (by decide)
    · rw [pk_un ee] at a
      exact Or.inr ⟨a, fun w => ⟨w, ee⟩, rfl⟩
theorem mr_I9 {y : Nat} (hal : al ≤ 16) (hI : mr_I T N Q al W 16 ty dy st S O ar h qk qp l) (hy : y < al) (hn : ∀ x, x < 36 → dy x = nI y → ty x = 8) (hw : st y = 2 → W y) : mr_I T N Q al (fun x => W x ∧ x ≠ y) y ty dy (upd st y 3) (upd S y 0) (upd O y 0) (upd ar y 0) h qk qp l := by
  obtain ⟨iN, iU, iP, iL, iO, iM, iV, iT, iA⟩ := hI
  refine ⟨mr_N3 iN hn, iU, mr_Pd iP hy, mr_Ld iL, mr_Oa iO (fun z => absurd z (by decide)), mr_Mc iM (Nat.le_refl _) (fun x p hx a b f => ?_), iV, mr_Tc iT (fun x hx a => ?_), mr_A1 iA (by decide)⟩
  · have ee : x ≠ y := fun z => f (by rw [z]; exact hw (by rw [← z]; exact a))
    rw [pk_un ee]
    exact ⟨a, b, fun g => f g.1⟩
  · by_cases ee : x = y
    · rw [ee, pk_us] at a
      exact absurd a (by decide)
    · rw [pk_un ee] at a
      exact Or.inr ⟨a, fun w => ⟨w, ee⟩, rfl⟩
theorem mr_Ie (hI : mr_I T N Q al W e ty dy st S O ar h qk qp l) (h0 : l e = 0) : mr_I T N Q al W 16 ty dy st S O ar h qk qp l := by
  obtain ⟨iN, iU, iP, iL, iO, iM, iV, iT, iA⟩ := hI
  exact ⟨iN, iU, iP, mr_Le iL h0, iO, iM, iV, iT, iA⟩
theorem mr_In {c : Nat} (hI : mr_I T N Q al W e ty dy st S O ar h qk qp l) (hn : mr_nok T N al st c v w) (hu : (v = 1 ∨ v = 3) → ∀ c', c' < 36 → c' ≠ c → (ty c' = 1 ∨ ty c' = 3) → ¬ dy c' = w) : mr_I T N Q al W e (upd ty c v) (upd dy c w) st S O ar h qk qp l := by
  obtain ⟨iN, iU, iP, iL, iO, iM, iV, iT, iA⟩ := hI
  exact ⟨mr_Nset iN hn, mr_Uset iU hu, iP, iL, iO, iM, iV, iT, iA⟩
theorem mr_IS (hI : mr_I T N Q al W e ty dy st S O ar h qk qp l) (hl : mr_lv st p) : mr_I T N Q al W e ty dy st (upd S p v) O ar h qk qp l := by
  obtain ⟨iN, iU, iP, iL, iO, iM, iV, iT, iA⟩ := hI
  exact ⟨iN, iU, mr_PS iP hl, iL, iO, iM, iV, iT, iA⟩
theorem mr_IO (hI : mr_I T N Q al W e ty dy st S O ar h qk qp l) (hl : mr_lv st p) : mr_I T N Q al W e ty dy st S (upd O p v) ar h qk qp l := by
  obtain ⟨iN, iU, iP, iL, iO, iM, iV, iT, iA⟩ := hI
  exact ⟨iN, iU, mr_PO iP hl, iL, iO, iM, iV, iT, iA⟩
theorem mr_Ia (hI : mr_I T N Q al W e ty dy st S O ar h qk qp l) (hl : mr_lv st p) (hv : v = 0 ∨ v = 1) (hv1 : v = 1 → l p = mr_oc qk (p * 9) (l p)) : mr_I T N Q al W e ty dy st S O (upd ar p v) h qk qp l := by
  obtain ⟨iN, iU, iP, iL, iO, iM, iV, iT, iA⟩ := hI
  exact ⟨iN, iU, mr_Pa iP hl hv, iL, mr_Oa iO hv1, iM, iV, iT, iA⟩
theorem mr_kill {y : Nat} (hal : al ≤ 16) (hN : mr_N T N al st ty dy) (hU : mr_U ty dy) (hy : y < al) (hk : ∀ c, c < 36 → ty' c = mr_kT y (ty c) (dy c) ∧ dy' c = mr_kD y (ty c) (dy c)) : mr_N T N al st ty' dy' ∧ mr_U ty' dy' ∧ (∀ c, c < 36 → dy' c = nI y → ty' c = 8) := by
  have f : ∀ c, c < 36 → (ty' c = 1 ∨ ty' c = 3) → (ty c = 1 ∨ ty c = 3) ∧ dy' c = dy c := by
    intro c hc ht
    rw [(hk c hc).1] at ht
    rw [(hk c hc).2]
    unfold mr_kT at ht
    unfold mr_kD
    by_cases e1 : dy c = nI y
    · rw [if_pos e1] at ht
      by_cases e2 : ty c = 1
      · rw [if_pos e2] at ht
        exact absurd ht (by decide)
      · rw [if_neg e2] at ht
        exact absurd ht (by decide)
    · rw [if_neg e1] at ht
      rw [if_neg (fun z => e1 z.1)]
      exact ⟨ht, rfl⟩
  refine ⟨?_, ?_, ?_⟩
  · intro c hc
    rw [(hk c hc).1, (hk c hc).2]
    unfold mr_kT mr_kD
    by_cases e1 : dy c = nI y
    · by_cases e2 : ty c = 1
      · rw [if_pos e1, if_pos e2, if_pos ⟨e1, e2⟩]
        exact Or.inl ⟨rfl, rfl⟩
      · rw [if_pos e1, if_neg e2, if_neg (fun z => e2 z.2)]
        rcases hN c hc with m | ⟨m, p, hp, hd, _⟩
        · exact absurd (e1.symm.trans m.2) (fun z => mr_nm1 z (by omega))
        · exact Or.inr ⟨m, p, hp, hd, Or.inr (Or.inr (Or.inr (Or.inr rfl)))⟩
    · rw [if_neg e1, if_neg (fun z => e1 z.1)]
      exact hN c hc
  · intro c c' hc hc' t t' hd
    have a := f c hc t
    have b := f c' hc' t'
    rw [a.2, b.2] at hd
    exact hU c c' hc hc' a.1 b.1 hd
  · intro c hc hd
    rw [(hk c hc).2] at hd
    rw [(hk c hc).1]
    unfold mr_kD at hd
    unfold mr_kT
    by_cases e3 : dy c = nI y ∧ ty c = 1
    · rw [if_pos e3] at hd
      exact absurd hd.symm (fun z => mr_nm1 z (by omega))
    · rw [if_neg e3] at hd
      rw [if_pos hd, if_neg (fun z => e3 ⟨hd, z⟩)]
end
