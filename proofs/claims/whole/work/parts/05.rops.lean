/-! the relation between the arrays of the two sides -/
def mr_B (T P N Q al : Nat) : Prop := 2 ≤ T ∧ T ≤ 4 ∧ 4 ≤ P ∧ P ≤ 16 ∧ 4 ≤ N ∧ N ≤ 8 ∧ 2 ≤ Q ∧ Q ≤ 8 ∧ al ≤ P
def mr_R (W : Nat → Prop) (e off T P N Q al : Nat) (l : Nat → Nat) (tx dx st S O ar lx h mi mk mp ty dy qi qk qp ly : Nat → Int32) : Prop := mr_B T P N Q al ∧ mr_NN tx dx ty dy ∧ mr_LX e l lx ∧ mr_LY l ly ∧ mr_G e off l mi qi ∧ mr_G e off l mk qk ∧ mr_G e off l mp qp ∧ (e < 16 → l e + off ≤ 9) ∧ mr_I T N Q al W e ty dy st S O ar h qk qp l
section
variable {W W' : Nat → Prop} {e off T P N Q al p n : Nat} {l : Nat → Nat} {tx dx st S O ar lx h mi mk mp ty dy qi qk qp ly mi' mk' mp' qi' qk' qp' : Nat → Int32} {v w i k z : Int32}
theorem mr_Rapp (hR : mr_R W e off T P N Q al l tx dx st S O ar lx h mi mk mp ty dy qi qk qp ly) (hp : p < 16) (he : p ≠ e) (hl : mr_lv st p) (hm : ((k = 0 ∨ k = 4) ∧ z = -1) ∨ ∃ x, x < al ∧ z = nI x ∧ (k = 1 ∨ k = 2 ∨ (k = 3 ∧ st x = 2 ∧ h x = nI p ∧ W x))) (ho : (k = 4 ∧ ar p = 0 ∧ l p = mr_oc qk (p * 9) (l p)) ∨ (¬ k = 4 ∧ mr_oc qk (p * 9) (l p) < Q)) : l p ≤ 8 ∧ mr_R (fun x => W x ∧ ¬ (k = 3 ∧ z = nI x)) e off T P N Q al (mr_ul l p (l p + 1)) tx dx st S O ar (upd lx p (nI (l p + 1))) h (upd mi (p * 9 + l p) i) (upd mk (p * 9 + l p) k) (upd mp (p * 9 + l p) z) ty dy (upd qi (p * 9 + l p) i) (upd qk (p * 9 + l p) k) (upd qp (p * 9 + l p) z) (upd ly p (nI (l p + 1))) := by
  obtain ⟨hB, hNN, hX, hY, g1, g2, g3, hb, hI⟩ := hR
  have l9 : ∀ q, q < 16 → l q ≤ 9 := fun q hq => mr_l9 (by unfold mr_B at hB; omega) hI hq
  obtain ⟨l8, hI'⟩ := mr_app (by unfold mr_B at hB; omega) (by unfold mr_B at hB; omega) hI hp hl hm ho
  refine ⟨l8, hB, hNN, mr_LXu he hX, mr_LYu hY, mr_Gapp l9 l8 he hb g1, mr_Gapp l9 l8 he hb g2, mr_Gapp l9 l8 he hb g3, fun h16 => ?_, hI'⟩
  rw [mr_uln (fun q => he q.symm)]
  exact hb h16
theorem mr_Rrem (hR : mr_R W 16 off T P N Q al l tx dx st S O ar lx h mi mk mp ty dy qi qk qp ly) (hp : p < 16) (hl : mr_lv st p) (hn : l p = n + 1) (h1 : mr_Sh p n mi mi') (h2 : mr_Sh p n mk mk') (h3 : mr_Sh p n mp mp') (k1 : mr_Sh p n qi qi') (k2 : mr_Sh p n qk qk') (k3 : mr_Sh p n qp qp') : mr_R (fun x => W x ∨ (qk (p * 9) = 3 ∧ qp (p * 9) = nI x)) 16 off T P N Q al (mr_ul l p n) tx dx st S O ar (upd lx p (nI n)) h mi' mk' mp' ty dy qi' qk' qp' (upd ly p (nI n)) := by
  obtain ⟨hB, hNN, hX, hY, g1, g2, g3, hb, hI⟩ := hR
  have l9 : ∀ q, q < 16 → l q ≤ 9 := fun q hq => mr_l9 (by unfold mr_B at hB; omega) hI hq
  exact ⟨hB, hNN, mr_LXu (by omega) hX, mr_LYu hY, mr_Grem l9 hp hn (by omega) g1 h1 k1, mr_Grem l9 hp hn (by omega) g2 h2 k2, mr_Grem l9 hp hn (by omega) g3 h3 k3, fun h16 => absurd h16 (by omega), mr_rem (by unfold mr_B at hB; omega) hI hp hn k2 k3 (Or.inl hl)⟩
theorem mr_Rpop (hR : mr_R W p off T P N Q al l tx dx st S O ar lx h mi mk mp ty dy qi qk qp ly) (hp : p < 16) (hn : l p = n + 1) (k1 : mr_Sh p n qi qi') (k2 : mr_Sh p n qk qk') (k3 : mr_Sh p n qp qp') : mr_R (fun x => W x ∨ (qk (p * 9) = 3 ∧ qp (p * 9) = nI x)) p (off + 1) T P N Q al (mr_ul l p n) tx dx st S O ar lx h mi mk mp ty dy qi' qk' qp' (upd ly p (nI n)) := by
  obtain ⟨hB, hNN, hX, hY, g1, g2, g3, hb, hI⟩ := hR
  have l9 : ∀ q, q < 16 → l q ≤ 9 := fun q hq => mr_l9 (by unfold mr_B at hB; omega) hI hq
  refine ⟨hB, hNN, mr_LXe hX, mr_LYu hY, mr_Gpop l9 hp hn g1 k1, mr_Gpop l9 hp hn g2 k2, mr_Gpop l9 hp hn g3 k3, fun h16 => ?_, mr_rem (by unfold mr_B at hB; omega) hI hp hn k2 k3 (Or.inr rfl)⟩
  rw [mr_uls]
  have := hb h16
  omega
theorem mr_RW (hR : mr_R W e off T P N Q al l tx dx st S O ar lx h mi mk mp ty dy qi qk qp ly) (hw : ∀ x, x < 16 → (W x ↔ W' x)) : mr_R W' e off T P N Q al l tx dx st S O ar lx h mi mk mp ty dy qi qk qp ly := by
  obtain ⟨hB, hNN, hX, hY, g1, g2, g3, hb, hI⟩ := hR
  exact ⟨hB, hNN, hX, hY, g1, g2, g3, hb, mr_IW (by unfold mr_B at hB; omega) hI hw⟩
/-- a name is given a type and a port -/
theorem mr_Rn {t m : Nat} (hR : mr_R W e off T P N Q al l tx dx st S O ar lx h mi mk mp ty dy qi qk qp ly) (hm : m < 8) (hn : mr_nok T N al st (t * 9 + (m + 1)) v w) (hu : (v = 1 ∨ v = 3) → ∀ c', c' < 36 → c' ≠ t * 9 + (m + 1) → (ty c' = 1 ∨ ty c' = 3) → ¬ dy c' = w) : mr_R W e off T P N Q al l (upd tx (t * 8 + m) v) (upd dx (t * 8 + m) w) st S O ar lx h mi mk mp (upd ty (t * 9 + (m + 1)) v) (upd dy (t * 9 + (m + 1)) w) qi qk qp ly := by
  obtain ⟨hB, hNN, hX, hY, g1, g2, g3, hb, hI⟩ := hR
  exact ⟨hB, mr_NNu hm hNN, hX, hY, g1, g2, g3, hb, mr_In hI hn hu⟩
/-- a name is given a type, its port stays -/
theorem mr_Rt {t m : Nat} (hR : mr_R W e off T P N Q al l tx dx st S O ar lx h mi mk mp ty dy qi qk qp ly) (hm : m < 8) (hw : dy (t * 9 + (m + 1)) = w) (hn : mr_nok T N al st (t * 9 + (m + 1)) v w) (hu : (v = 1 ∨ v = 3) → ∀ c', c' < 36 → c' ≠ t * 9 + (m + 1) → (ty c' = 1 ∨ ty c' = 3) → ¬ dy c' = w) : mr_R W e off T P N Q al l (upd tx (t * 8 + m) v) dx st S O ar lx h mi mk mp (upd ty (t * 9 + (m + 1)) v) dy qi qk qp ly := by
  obtain ⟨hB, hNN, hX, hY, g1, g2, g3, hb, hI⟩ := hR
  have hI' := mr_In hI hn hu
  rw [mr_ui hw] at hI'
  exact ⟨hB, mr_NNt hm hNN, hX, hY, g1, g2, g3, hb, hI'⟩
theorem mr_Rf {t m : Nat} (hR : mr_R W e off T P N Q al l tx dx st S O ar lx h mi mk mp ty dy qi qk qp ly) (hm : m < 8) : mr_R W e off T P N Q al l (upd tx (t * 8 + m) 0) (upd dx (t * 8 + m) (-1)) st S O ar lx h mi mk mp (upd ty (t * 9 + (m + 1)) 0) (upd dy (t * 9 + (m + 1)) (-1)) qi qk qp ly :=
  mr_Rn hR hm (Or.inl ⟨rfl, rfl⟩) (fun a => absurd a (by decide))
theorem mr_RS (hR : mr_R W e off T P N Q al l tx dx st S O ar lx h mi mk mp ty dy qi qk qp ly) (hl : mr_lv st p) : mr_R W e off T P N Q al l tx dx st (upd S p v) O ar lx h mi mk mp ty dy qi qk qp ly := by
  obtain ⟨hB, hNN, hX, hY, g1, g2, g3, hb, hI⟩ := hR
  exact ⟨hB, hNN, hX, hY, g1, g2, g3, hb, mr_IS hI hl⟩
theorem mr_RO (hR : mr_R W e off T P N Q al l tx dx st S O ar lx h mi mk mp ty dy qi qk qp ly) (hl : mr_lv st p) : mr_R W e off T P N Q al l tx dx st S (upd O p v) ar lx h mi mk mp ty dy qi qk qp ly := by
  obtain ⟨hB, hNN, hX, hY, g1, g2, g3, hb, hI⟩ := hR
  exact ⟨hB, hNN, hX, hY, g1, g2, g3, hb, mr_IO hI hl⟩
theorem mr_Ra (hR : mr_R W e off T P N Q al l tx dx st S O ar lx h mi mk mp ty dy qi qk qp ly) (hl : mr_lv st p) (hv : v = 0 ∨ v = 1) (hv1 : v = 1 → l p = mr_oc qk (p * 9) (l p)) : mr_R W e off T P N Q al l tx dx st S O (upd ar p v) lx h mi mk mp ty dy qi qk qp ly := by
  obtain ⟨hB, hNN, hX, hY, g1, g2, g3, hb, hI⟩ := hR
  exact ⟨hB, hNN, hX, hY, g1, g2, g3, hb, mr_Ia hI hl hv hv1⟩
theorem mr_R7 {c D m : Nat} (hR : mr_R W e off T P N Q al l tx dx st S O ar lx h mi mk mp ty dy qi qk qp ly) (hc : c < al) (hs : ¬ st c = 2) (hn : ∀ x, x < 36 → dy x = nI c → ¬ (ty x = 1 ∨ ty x = 3)) (hd : mr_rc st h m D) (ho : ¬ mr_on h c m D) : mr_R (fun x => W x ∨ x = c) e off T P N Q al l tx dx (upd st c 2) S O ar lx (upd h c (nI D)) mi mk mp ty dy qi qk qp ly := by
  obtain ⟨hB, hNN, hX, hY, g1, g2, g3, hb, hI⟩ := hR
  exact ⟨hB, hNN, hX, hY, g1, g2, g3, hb, mr_I7 (by unfold mr_B at hB; omega) hI hc hs hn hd ho⟩
theorem mr_R8 {c : Nat} (hR : mr_R W e off T P N Q al l tx dx st S O ar lx h mi mk mp ty dy qi qk qp ly) (hc : c < al) (hw : W c) : mr_R (fun x => W x ∧ x ≠ c) e off T P N Q al l tx dx (upd st c 1) S O ar lx h mi mk mp ty dy qi qk qp ly := by
  obtain ⟨hB, hNN, hX, hY, g1, g2, g3, hb, hI⟩ := hR
  exact ⟨hB, hNN, hX, hY, g1, g2, g3, hb, mr_I8 (by unfold mr_B at hB; omega) hI hc hw⟩
end
