/-! the two sides' queues agree: a of the component, b of the reference; of port e's queue the component has passed over off cells -/
def mr_G (e off : Nat) (l : Nat → Nat) (a b : Nat → Int32) : Prop := ∀ p i, p < 16 → i < l p → a (p * 9 + (i + (if p = e then off else 0))) = b (p * 9 + i)
def mr_LX (e : Nat) (l : Nat → Nat) (lx : Nat → Int32) : Prop := ∀ p, p < 16 → lx p = nI (if p = e then 0 else l p)
def mr_LY (l : Nat → Nat) (ly : Nat → Int32) : Prop := ∀ p, p < 16 → ly p = nI (l p)
def mr_NN (tx dx ty dy : Nat → Int32) : Prop := ∀ t m, t < 4 → m < 8 → tx (t * 8 + m) = ty (t * 9 + (m + 1)) ∧ dx (t * 8 + m) = dy (t * 9 + (m + 1))
/-- the least of 1 .. N that has pr; 0 if there is none -/
def mr_lst (pr : Nat → Prop) (N r : Nat) : Prop := (r = 0 ∧ ∀ n, 1 ≤ n → n ≤ N → ¬ pr n) ∨ (1 ≤ r ∧ r ≤ N ∧ pr r ∧ ∀ n, 1 ≤ n → n < r → ¬ pr n)
section
variable {e off p n : Nat} {l : Nat → Nat} {a b a' b' lx ly tx dx ty dy : Nat → Int32} {v w : Int32}
theorem mr_lstE (pr : Nat → Prop) : ∀ N, ∃ r, mr_lst pr N r := by
  intro N
  induction N with
  | zero => exact ⟨0, Or.inl ⟨rfl, fun n h1 h2 => absurd h1 (by omega)⟩⟩
  | succ N ih =>
    obtain ⟨r, hr⟩ := ih
    rcases hr with ⟨h0, h1⟩ | ⟨h1, h2, h3, h4⟩
    · by_cases hp : pr (N + 1)
      · exact ⟨N + 1, Or.inr ⟨by omega, Nat.le_refl _, hp, fun n a b => h1 n a (by omega)⟩⟩
      · refine ⟨0, Or.inl ⟨rfl, fun n a b => ?_⟩⟩
        by_cases en : n = N + 1
        · rw [en]; exact hp
        · exact h1 n a (by omega)
    · exact ⟨r, Or.inr ⟨h1, by omega, h3, h4⟩⟩
theorem mr_lstC {pr pr' : Nat → Prop} {N r : Nat} (hr : mr_lst pr N r) (hc : ∀ n, 1 ≤ n → n ≤ N → (pr n ↔ pr' n)) : mr_lst pr' N r := by
  rcases hr with ⟨h0, h1⟩ | ⟨h1, h2, h3, h4⟩
  · exact Or.inl ⟨h0, fun n a b c => h1 n a b ((hc n a b).mpr c)⟩
  · exact Or.inr ⟨h1, h2, (hc r h1 h2).mp h3, fun n a b c => h4 n a b ((hc n a (by omega)).mpr c)⟩
theorem mr_Gapp (l9 : ∀ q, q < 16 → l q ≤ 9) (l8 : l p ≤ 8) (he : p ≠ e) (hb : e < 16 → l e + off ≤ 9) (hG : mr_G e off l a b) : mr_G e off (mr_ul l p (l p + 1)) (upd a (p * 9 + l p) v) (upd b (p * 9 + l p) v) := by
  intro q i hq hi
  by_cases e1 : q = p
  · subst e1
    rw [mr_uls] at hi
    rw [if_neg he, Nat.add_zero]
    by_cases c : i = l q
    · rw [c, pk_us, pk_us]
    · rw [pk_un (by omega), pk_un (by omega)]
      have := hG q i hq (by omega)
      rw [if_neg he, Nat.add_zero] at this
      exact this
  · rw [mr_uln e1] at hi
    have h9 := l9 q hq
    have g := hG q i hq hi
    by_cases e2 : q = e
    · rw [if_pos e2] at g ⊢
      have hb' := hb (by omega)
      rw [← e2] at hb'
      rw [pk_un (by omega), pk_un (by omega)]
      exact g
    · rw [if_neg e2] at g ⊢
      rw [pk_un (by omega), pk_un (by omega)]
      exact g
theorem mr_Grem (l9 : ∀ q, q < 16 → l q ≤ 9) (hp : p < 16) (hn : l p = n + 1) (he : ¬ e < 16) (hG : mr_G e off l a b) (ha : mr_Sh p n a a') (hb : mr_Sh p n b b') : mr_G e off (mr_ul l p n) a' b' := by
  intro q i hq hi
  have e2 : q ≠ e := by omega
  rw [if_neg e2, Nat.add_zero]
  have hp9 := l9 p hp
  by_cases e1 : q = p
  · subst e1
    rw [mr_uls] at hi
    rw [ha.1 i hi, hb.1 i hi]
    have g := hG q (i + 1) hq (by omega)
    rw [if_neg e2, Nat.add_zero] at g
    exact g
  · rw [mr_uln e1] at hi
    have h9 := l9 q hq
    have g := hG q i hq hi
    rw [if_neg e2, Nat.add_zero] at g
    rw [ha.2 _ (by omega), hb.2 _ (by omega)]
    exact g
theorem mr_Gpop (l9 : ∀ q, q < 16 → l q ≤ 9) (hp : p < 16) (hn : l p = n + 1) (hG : mr_G p off l a b) (hb : mr_Sh p n b b') : mr_G p (off + 1) (mr_ul l p n) a b' := by
  intro q i hq hi
  have hp9 := l9 p hp
  by_cases e1 : q = p
  · subst e1
    rw [mr_uls] at hi
    rw [hb.1 i hi, if_pos rfl]
    have g := hG q (i + 1) hq (by omega)
    rw [if_pos rfl] at g
    rw [← g]
    exact congrArg a (by omega)
  · rw [mr_uln e1] at hi
    have h9 := l9 q hq
    have g := hG q i hq hi
    rw [if_neg e1] at g ⊢
    rw [hb.2 _ (by omega)]
    exact g
theorem mr_LYu (hL : mr_LY l ly) : mr_LY (mr_ul l p n) (upd ly p (nI n)) := by
  intro q hq
  by_cases e1 : q = p
  · rw [e1, pk_us, mr_uls]
  · rw [pk_un e1, mr_uln e1]; exact hL q hq
theorem mr_LXu (he : p ≠ e) (hL : mr_LX e l lx) : mr_LX e (mr_ul l p n) (upd lx p (nI n)) := by
  intro q hq
  by_cases e1 : q = p
  · rw [e1, pk_us, if_neg he, mr_uls]
  · rw [pk_un e1, mr_uln e1]; exact hL q hq
theorem mr_LXe (hL : mr_LX e l lx) : mr_LX e (mr_ul l e n) lx := by
  intro q hq
  by_cases e1 : q = e
  · rw [if_pos e1]
    have := hL q hq
    rw [if_pos e1] at this
    exact this
  · rw [mr_uln e1]; exact hL q hq
theorem mr_LXd (hL : mr_LX 16 l lx) : mr_LX e l (upd lx e 0) := by
  intro q hq
  by_cases e1 : q = e
  · rw [e1, pk_us, if_pos rfl]; exact nI_0.symm
  · have := hL q hq
    rw [if_neg (by omega)] at this
    rw [pk_un e1, if_neg e1]; exact this
theorem mr_LX16 (h0 : l e = 0) (hL : mr_LX e l lx) : mr_LX 16 l lx := by
  intro q hq
  have := hL q hq
  rw [if_neg (by omega)]
  by_cases e1 : q = e
  · rw [if_pos e1] at this
    rw [this, e1, h0]
  · rw [if_neg e1] at this
    exact this
theorem mr_NNu {t m : Nat} (hm : m < 8) (hN : mr_NN tx dx ty dy) : mr_NN (upd tx (t * 8 + m) v) (upd dx (t * 8 + m) w) (upd ty (t * 9 + (m + 1)) v) (upd dy (t * 9 + (m + 1)) w) := by
  intro t' m' ht' hm'
  by_cases c : t' * 8 + m' = t * 8 + m
  · have c1 : t' = t := by omega
    have c2 : m' = m := by omega
    rw [c1, c2, pk_us, pk_us, pk_us, pk_us]
    exact ⟨rfl, rfl⟩
  · have c' : t' * 9 + (m' + 1) ≠ t * 9 + (m + 1) := by omega
    rw [pk_un c, pk_un c, pk_un c', pk_un c']
    exact hN t' m' ht' hm'
theorem mr_NNt {t m : Nat} (hm : m < 8) (hN : mr_NN tx dx ty dy) : mr_NN (upd tx (t * 8 + m) v) dx (upd ty (t * 9 + (m + 1)) v) dy := by
  intro t' m' ht' hm'
  by_cases c : t' * 8 + m' = t * 8 + m
  · have c1 : t' = t := by omega
    have c2 : m' = m := by omega
    rw [c1, c2, pk_us, pk_us]
    exact ⟨rfl, (hN t m (by omega) hm).2⟩
  · have c' : t' * 9 + (m' + 1) ≠ t * 9 + (m + 1) := by omega
    rw [pk_un c, pk_un c']
    exact hN t' m' ht' hm'
end
