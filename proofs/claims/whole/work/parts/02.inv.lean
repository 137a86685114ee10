/-! the invariant of the states, piece by piece. ty, dy: types and ports of the 36 names (task * 9 + name); st: the ports' states; S, O: their counts; ar: armed; h: holders; qk, qp: the messages' kinds and ports; l: the queues' lengths; W: the ports whose receive right is under way (in no queue and at no name); e: the port whose queue is being thrown away (16: none) -/
def mr_lv (st : Nat → Int32) (p : Nat) : Prop := st p = 1 ∨ st p = 2
def mr_nok (T N al : Nat) (st : Nat → Int32) (c : Nat) (t d : Int32) : Prop := (t = 0 ∧ d = -1) ∨ ((c / 9 < T ∧ 1 ≤ c % 9 ∧ c % 9 ≤ N) ∧ ∃ p, p < al ∧ d = nI p ∧ ((t = 1 ∧ st p = 1) ∨ (t = 3 ∧ st p = 1) ∨ (t = 2 ∧ mr_lv st p) ∨ (t = 4 ∧ mr_lv st p) ∨ t = 8))
def mr_N (T N al : Nat) (st ty dy : Nat → Int32) : Prop := ∀ c, c < 36 → mr_nok T N al st c (ty c) (dy c)
def mr_U (ty dy : Nat → Int32) : Prop := ∀ c c', c < 36 → c' < 36 → (ty c = 1 ∨ ty c = 3) → (ty c' = 1 ∨ ty c' = 3) → dy c = dy c' → c = c'
def mr_P (al : Nat) (st S O ar : Nat → Int32) : Prop := ∀ p, p < 16 → (al ≤ p → st p = 0) ∧ (¬ mr_lv st p → S p = 0 ∧ O p = 0 ∧ ar p = 0) ∧ (ar p = 0 ∨ ar p = 1)
def mr_L (e : Nat) (st : Nat → Int32) (l : Nat → Nat) : Prop := ∀ p, p < 16 → p ≠ e → ¬ mr_lv st p → l p = 0
def mr_O (Q : Nat) (ar qk : Nat → Int32) (l : Nat → Nat) : Prop := ∀ p, p < 16 → mr_oc qk (p * 9) (l p) ≤ Q ∧ l p ≤ mr_oc qk (p * 9) (l p) + 1 ∧ (ar p = 1 → l p = mr_oc qk (p * 9) (l p))
def mr_mok (al : Nat) (W : Nat → Prop) (st h : Nat → Int32) (p : Nat) (k z : Int32) : Prop := ((k = 0 ∨ k = 4) ∧ z = -1) ∨ ∃ x, x < al ∧ z = nI x ∧ (k = 1 ∨ k = 2 ∨ (k = 3 ∧ st x = 2 ∧ h x = nI p ∧ ¬ W x))
def mr_M (al : Nat) (W : Nat → Prop) (st h qk qp : Nat → Int32) (l : Nat → Nat) : Prop := ∀ p i, p < 16 → i < l p → mr_mok al W st h p (qk (p * 9 + i)) (qp (p * 9 + i))
def mr_V (qk qp : Nat → Int32) (l : Nat → Nat) : Prop := ∀ p i p' i', p < 16 → i < l p → p' < 16 → i' < l p' → qk (p * 9 + i) = 3 → qk (p' * 9 + i') = 3 → qp (p * 9 + i) = qp (p' * 9 + i') → p = p' ∧ i = i'
def mr_T (W : Nat → Prop) (st h qk qp : Nat → Int32) (l : Nat → Nat) : Prop := ∀ z, z < 16 → st z = 2 → W z ∨ ∃ p i, p < 16 ∧ i < l p ∧ qk (p * 9 + i) = 3 ∧ qp (p * 9 + i) = nI z ∧ h z = nI p
section
variable {T N Q al al' e p : Nat} {W W' : Nat → Prop} {st st' S O ar h h' ty dy qk qp : Nat → Int32} {l : Nat → Nat} {v w : Int32}
theorem mr_lvn {q : Nat} (hq : q ≠ p) : mr_lv (upd st p v) q ↔ mr_lv st q := by
  unfold mr_lv
  rw [pk_un hq]
theorem mr_lv1 : mr_lv (upd st p 1) p := Or.inl pk_us
theorem mr_lv2 : mr_lv (upd st p 2) p := Or.inr pk_us
/-! names -/
theorem mr_Nset {c : Nat} (hN : mr_N T N al st ty dy) (hn : mr_nok T N al st c v w) : mr_N T N al st (upd ty c v) (upd dy c w) := by
  intro c' hc'
  by_cases e : c' = c
  · subst e
    rw [pk_us, pk_us]
    exact hn
  · rw [pk_un e, pk_un e]
    exact hN c' hc'
theorem mr_Nc (hN : mr_N T N al st ty dy) (ha : al ≤ al') (hc : ∀ c p, c < 36 → p < al → dy c = nI p → (st p = 1 → (ty c = 1 ∨ ty c = 3) → st' p = 1) ∧ (mr_lv st p → (ty c = 2 ∨ ty c = 4) → mr_lv st' p)) : mr_N T N al' st' ty dy := by
  intro c h36
  rcases hN c h36 with z | ⟨z, p, hp, hd, k⟩
  · exact Or.inl z
  · refine Or.inr ⟨z, p, by omega, hd, ?_⟩
    have hh := hc c p h36 hp hd
    rcases k with k | k | k | k | k
    · exact Or.inl ⟨k.1, hh.1 k.2 (Or.inl k.1)⟩
    · exact Or.inr (Or.inl ⟨k.1, hh.1 k.2 (Or.inr k.1)⟩)
    · exact Or.inr (Or.inr (Or.inl ⟨k.1, hh.2 k.2 (Or.inl k.1)⟩))
    · exact Or.inr (Or.inr (Or.inr (Or.inl ⟨k.1, hh.2 k.2 (Or.inr k.1)⟩)))
    · exact Or.inr (Or.inr (Or.inr (Or.inr k)))
theorem mr_N1 (hN : mr_N T N al st ty dy) (ha : al ≤ al') : mr_N T N al' (upd st p 1) ty dy := by
  refine mr_Nc hN ha (fun c q _ _ _ => ⟨fun hs _ => ?_, fun hs _ => ?_⟩)
  · by_cases e : q = p
    · rw [e, pk_us]
    · rw [pk_un e]; exact hs
  · by_cases e : q = p
    · rw [e]; exact mr_lv1
    · exact (mr_lvn e).mpr hs
theorem mr_N2 (hN : mr_N T N al st ty dy) (hn : ∀ c, c < 36 → dy c = nI p → ¬ (ty c = 1 ∨ ty c = 3)) : mr_N T N al (upd st p 2) ty dy := by
  refine mr_Nc hN (Nat.le_refl _) (fun c q h36 _ hd => ⟨fun hs ht => ?_, fun hs _ => ?_⟩)
  · by_cases e : q = p
    · subst e
      exact absurd ht (hn c h36 hd)
    · rw [pk_un e]; exact hs
  · by_cases e : q = p
    · rw [e]; exact mr_lv2
    · exact (mr_lvn e).mpr hs
theorem mr_N3 (hN : mr_N T N al st ty dy) (hn : ∀ c, c < 36 → dy c = nI p → ty c = 8) : mr_N T N al (upd st p v) ty dy := by
  refine mr_Nc hN (Nat.le_refl _) (fun c q h36 _ hd => ⟨fun hs ht => ?_, fun hs ht => ?_⟩)
  · by_cases e : q = p
    · subst e
      rw [hn c h36 hd] at ht
      exact absurd ht (by decide)
    · rw [pk_un e]; exact hs
  · by_cases e : q = p
    · subst e
      rw [hn c h36 hd] at ht
      exact absurd ht (by decide)
    · exact (mr_lvn e).mpr hs
theorem mr_Uset {c : Nat} (hU : mr_U ty dy) (hn : (v = 1 ∨ v = 3) → ∀ c', c' < 36 → c' ≠ c → (ty c' = 1 ∨ ty c' = 3) → ¬ dy c' = w) : mr_U (upd ty c v) (upd dy c w) := by
  intro a b ha hb ta tb hd
  by_cases ea : a = c
  · by_cases eb : b = c
    · rw [ea, eb]
    · subst ea
      rw [pk_us] at ta
      rw [pk_un eb] at tb
      rw [pk_us, pk_un eb] at hd
      exact absurd hd.symm (hn ta b hb eb tb)
  · by_cases eb : b = c
    · subst eb
      rw [pk_us] at tb
      rw [pk_un ea] at ta
      rw [pk_us, pk_un ea] at hd
      exact absurd hd (hn tb a ha ea ta)
    · rw [pk_un ea] at ta
      rw [pk_un eb] at tb
      rw [pk_un ea, pk_un eb] at hd
      exact hU a b ha hb ta tb hd
/-! ports -/
theorem mr_PS (hP : mr_P al st S O ar) (hl : mr_lv st p) : mr_P al st (upd S p v) O ar := by
  intro q hq
  refine ⟨(hP q hq).1, fun hn => ?_, (hP q hq).2.2⟩
  by_cases e : q = p
  · subst e; exact absurd hl hn
  · rw [pk_un e]; exact (hP q hq).2.1 hn
theorem mr_PO (hP : mr_P al st S O ar) (hl : mr_lv st p) : mr_P al st S (upd O p v) ar := by
  intro q hq
  refine ⟨(hP q hq).1, fun hn => ?_, (hP q hq).2.2⟩
  by_cases e : q = p
  · subst e; exact absurd hl hn
  · rw [pk_un e]; exact (hP q hq).2.1 hn
theorem mr_Pa (hP : mr_P al st S O ar) (hl : mr_lv st p) (hv : v = 0 ∨ v = 1) : mr_P al st S O (upd ar p v) := by
  intro q hq
  refine ⟨(hP q hq).1, fun hn => ?_, ?_⟩
  · by_cases e : q = p
    · subst e; exact absurd hl hn
    · rw [pk_un e]; exact (hP q hq).2.1 hn
  · by_cases e : q = p
    · rw [e, pk_us]; exact hv
    · rw [pk_un e]; exact (hP q hq).2.2
theorem mr_Ps (hP : mr_P al st S O ar) (ha : al ≤ al') (hp : p < al') (hv : v = 1 ∨ v = 2) : mr_P al' (upd st p v) S O ar := by
  intro q hq
  refine ⟨fun hn => ?_, fun hn => ?_, (hP q hq).2.2⟩
  · have e : q ≠ p := by omega
    rw [pk_un e]; exact (hP q hq).1 (by omega)
  · by_cases e : q = p
    · subst e
      refine absurd ?_ hn
      unfold mr_lv
      rw [pk_us]; exact hv
    · exact (hP q hq).2.1 (fun z => hn ((mr_lvn e).mpr z))
theorem mr_Pd (hP : mr_P al st S O ar) (hp : p < al) : mr_P al (upd st p 3) (upd S p 0) (upd O p 0) (upd ar p 0) := by
  intro q hq
  by_cases e : q = p
  · subst e
    rw [pk_us, pk_us, pk_us, pk_us]
    exact ⟨fun hn => absurd hn (by omega), fun _ => ⟨rfl, rfl, rfl⟩, Or.inl rfl⟩
  · rw [pk_un e, pk_un e, pk_un e, pk_un e]
    exact ⟨(hP q hq).1, fun hn => (hP q hq).2.1 (fun z => hn ((mr_lvn e).mpr z)), (hP q hq).2.2⟩
/-! lengths of queues -/
theorem mr_Ls (hL : mr_L e st l) (hv : v = 1 ∨ v = 2) : mr_L e (upd st p v) l := by
  intro q hq he hn
  by_cases ep : q = p
  · subst ep
    refine absurd ?_ hn
    unfold mr_lv
    rw [pk_us]; exact hv
  · exact hL q hq he (fun z => hn ((mr_lvn ep).mpr z))
theorem mr_Ld (hL : mr_L 16 st l) : mr_L p (upd st p v) l := by
  intro q hq he hn
  exact hL q hq (by omega) (fun z => hn ((mr_lvn he).mpr z))
theorem mr_Le (hL : mr_L e st l) (h0 : l e = 0) : mr_L 16 st l := by
  intro q hq _ hn
  by_cases ee : q = e
  · rw [ee]; exact h0
  · exact hL q hq ee hn
theorem mr_Lu {n : Nat} (hL : mr_L e st l) (hp : mr_lv st p ∨ p = e) : mr_L e st (mr_ul l p n) := by
  intro q hq he hn
  by_cases ep : q = p
  · subst ep
    rcases hp with hp | hp
    · exact absurd hp hn
    · exact absurd hp he
  · rw [mr_uln ep]; exact hL q hq he hn
/-! notices -/
theorem mr_Oa (hO : mr_O Q ar qk l) (hv : v = 1 → l p = mr_oc qk (p * 9) (l p)) : mr_O Q (upd ar p v) qk l := by
  intro q hq
  refine ⟨(hO q hq).1, (hO q hq).2.1, fun ha => ?_⟩
  by_cases e : q = p
  · subst e
    rw [pk_us] at ha
    exact hv ha
  · rw [pk_un e] at ha
    exact (hO q hq).2.2 ha
/-! messages -/
theorem mr_Mc (hM : mr_M al W st h qk qp l) (ha : al ≤ al') (hc : ∀ x p, x < al → st x = 2 → h x = nI p → ¬ W x → st' x = 2 ∧ h' x = nI p ∧ ¬ W' x) : mr_M al' W' st' h' qk qp l := by
  intro p i hp hi
  rcases hM p i hp hi with z | ⟨x, hx, hz, k⟩
  · exact Or.inl z
  · refine Or.inr ⟨x, by omega, hz, ?_⟩
    rcases k with k | k | k
    · exact Or.inl k
    · exact Or.inr (Or.inl k)
    · exact Or.inr (Or.inr ⟨k.1, hc x p hx k.2.1 k.2.2.1 k.2.2.2⟩)
theorem mr_Tc (hT : mr_T W st h qk qp l) (hc : ∀ x, x < 16 → st' x = 2 → W' x ∨ (st x = 2 ∧ (W x → W' x) ∧ h' x = h x)) : mr_T W' st' h' qk qp l := by
  intro x hx hs
  rcases hc x hx hs with z | ⟨a, b, c⟩
  · exact Or.inl z
  · rcases hT x hx a with z | ⟨p, i, k1, k2, k3, k4, k5⟩
    · exact Or.inl (b z)
    · exact Or.inr ⟨p, i, k1, k2, k3, k4, c.trans k5⟩
end
