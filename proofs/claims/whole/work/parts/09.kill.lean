/-! the names of a dying port, cell by cell; the chain of holders, step by step -/
def mr_KS (y n : Nat) (ty dy a b : Nat → Int32) : Prop := (∀ c, c < n → a c = mr_kT y (ty c) (dy c) ∧ b c = mr_kD y (ty c) (dy c)) ∧ (∀ c, n ≤ c → a c = ty c ∧ b c = dy c)
section
variable {y n : Nat} {ty dy a b h : Nat → Int32} {c D q r : Nat}
theorem mr_KS0 : mr_KS y 0 ty dy ty dy := ⟨fun c hc => absurd hc (by omega), fun _ _ => ⟨rfl, rfl⟩⟩
theorem mr_KSs (hs : mr_KS y n ty dy a b) : mr_KS y (n + 1) ty dy (upd a n (mr_kT y (ty n) (dy n))) (upd b n (mr_kD y (ty n) (dy n))) := by
  refine ⟨fun c hc => ?_, fun c hc => ?_⟩
  · by_cases e : c = n
    · rw [e, pk_us, pk_us]
      exact ⟨rfl, rfl⟩
    · rw [pk_un e, pk_un e]
      exact hs.1 c (by omega)
  · rw [pk_un (by omega), pk_un (by omega)]
    exact hs.2 c (by omega)
theorem mr_KSe (hs : mr_KS y n ty dy a b) (h0 : ¬ dy n = nI y) : mr_KS y (n + 1) ty dy a b := by
  have r := mr_KSs hs
  have k1 : mr_kT y (ty n) (dy n) = ty n := if_neg h0
  have k2 : mr_kD y (ty n) (dy n) = dy n := if_neg (fun z => h0 z.1)
  rw [k1, k2, mr_ui (hs.2 n (Nat.le_refl _)).1, mr_ui (hs.2 n (Nat.le_refl _)).2] at r
  exact r
theorem mr_KSf (hs : mr_KS y n ty dy a b) (h0 : dy n = nI y) (h1 : ty n = 1) : mr_KS y (n + 1) ty dy (upd a n 0) (upd b n (-1)) := by
  have r := mr_KSs hs
  have k1 : mr_kT y (ty n) (dy n) = 0 := by
    unfold mr_kT
    rw [if_pos h0, if_pos h1]
  have k2 : mr_kD y (ty n) (dy n) = -1 := if_pos ⟨h0, h1⟩
  rw [k1, k2] at r
  exact r
theorem mr_KSd (hs : mr_KS y n ty dy a b) (h0 : dy n = nI y) (h1 : ¬ ty n = 1) : mr_KS y (n + 1) ty dy (upd a n 8) b := by
  have r := mr_KSs hs
  have k1 : mr_kT y (ty n) (dy n) = 8 := by
    unfold mr_kT
    rw [if_pos h0, if_neg h1]
  have k2 : mr_kD y (ty n) (dy n) = dy n := if_neg (fun z => h1 z.2)
  rw [k1, k2, mr_ui (hs.2 n (Nat.le_refl _)).2] at r
  exact r
theorem mr_KS8 (hs : mr_KS y n ty dy a b) (h0 : dy n = nI y) (h1 : ty n = 8) : mr_KS y (n + 1) ty dy a b := by
  have r := mr_KSd hs h0 (by rw [h1]; decide)
  rw [mr_ui ((hs.2 n (Nat.le_refl _)).1.trans h1)] at r
  exact r
theorem mr_onS : ∀ r, mr_on h c r c
  | 0 => rfl
  | _ + 1 => Or.inl rfl
theorem mr_onN (hne : D ≠ c) (hq : h D = nI q) (h16 : q < 16) : mr_on h c (r + 1) D ↔ mr_on h c r q := by
  constructor
  · intro z
    rcases z with z | ⟨q', a1, a2, a3⟩
    · exact absurd z hne
    · have ee : q' = q := mr_inj (a1.symm.trans hq) (by omega) (by omega)
      rw [← ee]
      exact a3
  · intro z
    exact Or.inr ⟨q, hq, h16, z⟩
end
/-! the least of the names -/
theorem mr_lst0 {pr : Nat → Prop} {N r : Nat} (hr : mr_lst pr N r) (hn : ∀ n, 1 ≤ n → n ≤ N → ¬ pr n) : r = 0 := by
  rcases hr with ⟨h0, _⟩ | ⟨h1, h2, h3, _⟩
  · exact h0
  · exact absurd h3 (hn r h1 h2)
theorem mr_lst1 {pr : Nat → Prop} {N r i : Nat} (hr : mr_lst pr N r) (hi : i + 1 ≤ N) (hn : ∀ n, 1 ≤ n → n ≤ i → ¬ pr n) (z : pr (i + 1)) : r = i + 1 := by
  rcases hr with ⟨_, h1⟩ | ⟨h1, h2, h3, h4⟩
  · exact absurd z (h1 (i + 1) (by omega) (by omega))
  · by_cases a : r ≤ i
    · exact absurd h3 (hn r h1 a)
    · by_cases b : i + 1 < r
      · exact absurd z (h4 (i + 1) (by omega) b)
      · omega
theorem mr_lst2 {pr : Nat → Prop} {i : Nat} (hn : ∀ n, 1 ≤ n → n ≤ i → ¬ pr n) (z : ¬ pr (i + 1)) : ∀ n, 1 ≤ n → n ≤ i + 1 → ¬ pr n := by
  intro n a b
  by_cases en : n = i + 1
  · rw [en]; exact z
  · exact hn n a (by omega)
theorem mr_lstL {pr : Nat → Prop} {N r : Nat} (hr : mr_lst pr N r) : r = 0 ∨ ∃ m, m < N ∧ r = m + 1 ∧ pr (m + 1) := by
  rcases hr with ⟨h0, _⟩ | ⟨h1, h2, h3, h4⟩
  · exact Or.inl h0
  · cases r with
    | zero => exact absurd h1 (by omega)
    | succ m => exact Or.inr ⟨m, by omega, rfl, h3⟩
