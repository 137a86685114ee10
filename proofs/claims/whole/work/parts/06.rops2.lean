/-! more of the relation: a notice, a death, a new port; the bits of the types -/
def mr_tok (t : Int32) : Prop := t = 0 ∨ t = 1 ∨ t = 2 ∨ t = 3 ∨ t = 4 ∨ t = 8
theorem mr_a1 {t : Int32} (h : mr_tok t) : t &&& 1 = 0 ↔ ¬ (t = 1 ∨ t = 3) := by
  rcases h with h | h | h | h | h | h <;> subst h <;> decide
theorem mr_a2 {t : Int32} (h : mr_tok t) : t &&& 2 = 0 ↔ ¬ (t = 2 ∨ t = 3) := by
  rcases h with h | h | h | h | h | h <;> subst h <;> decide
theorem mr_a3 {t : Int32} (h : mr_tok t) : t &&& 3 = 0 ↔ ¬ (t = 1 ∨ t = 2 ∨ t = 3) := by
  rcases h with h | h | h | h | h | h <;> subst h <;> decide
theorem mr_a4 {t : Int32} (h : mr_tok t) : t &&& 4 = 0 ↔ ¬ t = 4 := by
  rcases h with h | h | h | h | h | h <;> subst h <;> decide
theorem mr_a6 {t : Int32} (h : mr_tok t) : t &&& 6 = 0 ↔ ¬ (t = 2 ∨ t = 3 ∨ t = 4) := by
  rcases h with h | h | h | h | h | h <;> subst h <;> decide
theorem mr_s1 (x : Int32) : x - 1 = 0 ↔ x = 1 := by
  constructor
  · intro h
    have e : x = (x - 1) + 1 := by grind
    rw [h] at e
    exact e
  · intro h
    rw [h]
    decide
section
variable {W W' : Nat → Prop} {e off T P N Q al p n : Nat} {l : Nat → Nat} {tx dx st S O ar lx h mi mk mp ty dy qi qk qp ly tx' dx' ty' dy' : Nat → Int32} {v w i k z : Int32}
theorem mr_Ntok {c : Nat} (hN : mr_N T N al st ty dy) (hc : c < 36) : mr_tok (ty c) := by
  rcases hN c hc with m | ⟨_, _, _, _, k⟩
  · exact Or.inl m.1
  · rcases k with k | k | k | k | k
    · exact Or.inr (Or.inl k.1)
    · exact Or.inr (Or.inr (Or.inr (Or.inl k.1)))
    · exact Or.inr (Or.inr (Or.inl k.1))
    · exact Or.inr (Or.inr (Or.inr (Or.inr (Or.inl k.1))))
    · exact Or.inr (Or.inr (Or.inr (Or.inr (Or.inr k))))
/-- a name with a receive right -/
theorem mr_Nr {c : Nat} (hN : mr_N T N al st ty dy) (hc : c < 36) (ht : ty c = 1 ∨ ty c = 3) : ∃ p, p < al ∧ dy c = nI p ∧ st p = 1 := by
  rcases hN c hc with m | ⟨_, p, hp, hd, k⟩
  · rw [m.1] at ht
    exact absurd ht (by decide)
  · rcases k with k | k | k | k | k
    · exact ⟨p, hp, hd, k.2⟩
    · exact ⟨p, hp, hd, k.2⟩
    · rw [k.1] at ht
      exact absurd ht (by decide)
    · rw [k.1] at ht
      exact absurd ht (by decide)
    · rw [k] at ht
      exact absurd ht (by decide)
/-- a name with a right -/
theorem mr_Ns {c : Nat} (hN : mr_N T N al st ty dy) (hc : c < 36) (ht : ¬ ty c = 0) (ht8 : ¬ ty c = 8) : ∃ p, p < al ∧ dy c = nI p ∧ mr_lv st p := by
  rcases hN c hc with m | ⟨_, p, hp, hd, k⟩
  · exact absurd m.1 ht
  · rcases k with k | k | k | k | k
    · exact ⟨p, hp, hd, Or.inl k.2⟩
    · exact ⟨p, hp, hd, Or.inl k.2⟩
    · exact ⟨p, hp, hd, k.2⟩
    · exact ⟨p, hp, hd, k.2⟩
    · exact absurd k ht8
theorem mr_Nz {c : Nat} (hN : mr_N T N al st ty dy) (hc : c < 36) (ht : ¬ ty c = 0) : (c / 9 < T ∧ 1 ≤ c % 9 ∧ c % 9 ≤ N) ∧ ∃ p, p < al ∧ dy c = nI p := by
  rcases hN c hc with m | ⟨m, p, hp, hd, _⟩
  · exact absurd m.1 ht
  · exact ⟨m, p, hp, hd⟩
theorem mr_Nf {c : Nat} (hN : mr_N T N al st ty dy) (hc : c < 36) (ht : ty c = 0) : dy c = -1 := by
  rcases hN c hc with m | ⟨_, _, _, _, k⟩
  · exact m.2
  · rw [ht] at k
    exact absurd k (by
      rintro (k | k | k | k | k)
      · exact absurd k.1 (by decide)
      · exact absurd k.1 (by decide)
      · exact absurd k.1 (by decide)
      · exact absurd k.1 (by decide)
      · exact absurd k (by decide))
theorem mr_Rnote (hR : mr_R W e off T P N Q al l tx dx st S O ar lx h mi mk mp ty dy qi qk qp ly) (hp : p < 16) (he : p ≠ e) (hl : mr_lv st p) (ha : ar p = 1) : l p ≤ 8 ∧ mr_R W e off T P N Q al (mr_ul l p (l p + 1)) tx dx st (upd S p v) O (upd ar p 0) (upd lx p (nI (l p + 1))) h (upd mi (p * 9 + l p) i) (upd mk (p * 9 + l p) 4) (upd mp (p * 9 + l p) (-1)) ty dy (upd qi (p * 9 + l p) i) (upd qk (p * 9 + l p) 4) (upd qp (p * 9 + l p) (-1)) (upd ly p (nI (l p + 1))) := by
  have hI := hR.2.2.2.2.2.2.2.2
  have o := (hI.2.2.2.2.1 p hp).2.2 ha
  have r1 := mr_RS (v := v) hR hl
  have r2 := mr_Ra (v := 0) r1 hl (Or.inl rfl) (fun z => absurd z (by decide))
  obtain ⟨l8, r3⟩ := mr_Rapp (i := i) (k := 4) (z := -1) r2 hp he hl (Or.inl ⟨Or.inr rfl, rfl⟩) (Or.inl ⟨rfl, pk_us, o⟩)
  exact ⟨l8, mr_RW r3 (fun x _ => ⟨fun w => w.1, fun w => ⟨w, fun c => absurd c.1 (by decide)⟩⟩)⟩
theorem mr_Gd {a b : Nat → Int32} (hG : mr_G 16 off l a b) : mr_G e 0 l a b := by
  intro q j hq hj
  have := hG q j hq hj
  rw [if_neg (by omega)] at this
  rw [ite_self]
  exact this
theorem mr_Gz {a b : Nat → Int32} (h0 : l e = 0) (hG : mr_G e off l a b) : mr_G 16 0 l a b := by
  intro q j hq hj
  rw [ite_self]
  have g := hG q j hq hj
  have ne : q ≠ e := fun z => by
    rw [z, h0] at hj
    omega
  rw [if_neg ne] at g
  exact g
theorem mr_R9 {y : Nat} (hR : mr_R W 16 off T P N Q al l tx dx st S O ar lx h mi mk mp ty dy qi qk qp ly) (hy : y < al) (hk : ∀ c, c < 36 → ty' c = mr_kT y (ty c) (dy c) ∧ dy' c = mr_kD y (ty c) (dy c)) (hx : ∀ c, c < 32 → tx' c = mr_kT y (tx c) (dx c) ∧ dx' c = mr_kD y (tx c) (dx c)) (hw : st y = 2 → W y) : mr_R (fun x => W x ∧ x ≠ y) y 0 T P N Q al l tx' dx' (upd st y 3) (upd S y 0) (upd O y 0) (upd ar y 0) (upd lx y 0) h mi mk mp ty' dy' qi qk qp ly := by
  obtain ⟨hB, hNN, hX, hY, g1, g2, g3, hb, hI⟩ := hR
  have hal : al ≤ 16 := by unfold mr_B at hB; omega
  have hQ : Q ≤ 8 := by unfold mr_B at hB; omega
  obtain ⟨kN, kU, k8⟩ := mr_kill hal hI.1 hI.2.1 hy hk
  refine ⟨hB, ?_, mr_LXd hX, hY, mr_Gd g1, mr_Gd g2, mr_Gd g3, fun h16 => ?_, mr_I9 hal ⟨kN, kU, hI.2.2⟩ hy k8 hw⟩
  · intro t m ht hm
    have a := hx (t * 8 + m) (by omega)
    have b := hk (t * 9 + (m + 1)) (by omega)
    have c := hNN t m ht hm
    rw [a.1, a.2, b.1, b.2, c.1, c.2]
    exact ⟨rfl, rfl⟩
  · have := mr_l9 hQ hI h16
    omega
theorem mr_Rz (hR : mr_R W e off T P N Q al l tx dx st S O ar lx h mi mk mp ty dy qi qk qp ly) (h0 : l e = 0) : mr_R W 16 0 T P N Q al l tx dx st S O ar lx h mi mk mp ty dy qi qk qp ly := by
  obtain ⟨hB, hNN, hX, hY, g1, g2, g3, hb, hI⟩ := hR
  exact ⟨hB, hNN, mr_LX16 h0 hX, hY, mr_Gz h0 g1, mr_Gz h0 g2, mr_Gz h0 g3, fun h16 => absurd h16 (by omega), mr_Ie hI h0⟩
theorem mr_Rnew {t m : Nat} (hR : mr_R W e off T P N Q al l tx dx st S O ar lx h mi mk mp ty dy qi qk qp ly) (ha : al < P) (ht : t < T) (hm : m < N) : mr_R W e off T P N Q (al + 1) l (upd tx (t * 8 + m) 1) (upd dx (t * 8 + m) (nI al)) (upd st al 1) S O ar lx h mi mk mp (upd ty (t * 9 + (m + 1)) 1) (upd dy (t * 9 + (m + 1)) (nI al)) qi qk qp ly := by
  obtain ⟨hB, hNN, hX, hY, g1, g2, g3, hb, hI⟩ := hR
  have hB' : mr_B T P N Q (al + 1) := by unfold mr_B at hB ⊢; omega
  unfold mr_B at hB
  have r : mr_R W e off T P N Q (al + 1) l tx dx (upd st al 1) S O ar lx h mi mk mp ty dy qi qk qp ly := ⟨hB', hNN, hX, hY, g1, g2, g3, hb, mr_I0 hI (by omega)⟩
  refine mr_Rn r (by omega) (Or.inr ⟨by omega, al, by omega, rfl, Or.inl ⟨rfl, pk_us⟩⟩) (fun _ c hc _ hr hd => ?_)
  obtain ⟨p, hp, hd', _⟩ := mr_Nr hI.1 hc hr
  have := mr_inj (hd'.symm.trans hd) (by omega) (by omega)
  omega
end
