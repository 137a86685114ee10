/-! pure rows: stores, numbers, the pigeonhole -/
theorem pk_us {f : Nat → Int32} {k : Nat} {x : Int32} : upd f k x k = x := if_pos rfl
theorem pk_un {f : Nat → Int32} {k j : Nat} {x : Int32} (h : j ≠ k) : upd f k x j = f j := if_neg h
theorem pk_sub {a b : Nat} (h : b ≤ a) : nI a - nI b = nI (a - b) := by
  obtain ⟨c, rfl⟩ : ∃ c, a = c + b := ⟨a - b, by omega⟩
  rw [← nI_add, Int32.add_sub_cancel, Nat.add_sub_cancel]
theorem pk_mul (a b : Nat) : nI a * nI b = nI (a * b) := (Int32.ofNat_mul a b).symm
theorem pk_div {a d : Nat} (ha : a < 2 ^ 31) (h0 : 0 < d) (hd : d < 2 ^ 31) : nI a / nI d = nI (a / d) := by
  apply Int32.toInt_inj.mp
  rw [lg_idiv_nonneg (by rw [nI_toInt ha]; omega) (by rw [nI_toInt hd]; omega), nI_toInt ha, nI_toInt hd, nI_toInt (Nat.lt_of_le_of_lt (Nat.div_le_self a d) ha)]
  first | rfl | exact (Int.natCast_ediv _ _).symm
theorem pk_rem {a d : Nat} (ha : a < 2 ^ 31) (h0 : 0 < d) (hd : d < 2 ^ 31) : nI a - nI a / nI d * nI d = nI (a % d) := by
  rw [pk_div ha h0 hd, pk_mul, pk_sub (Nat.div_mul_le_self a d)]
  exact congrArg nI (by have := Nat.div_add_mod' a d; omega)
theorem pk_ix (x : Int32) {n : Nat} (hn : n < 2 ^ 31) : x < 0 ∨ nI n ≤ x ∨ ∃ j : Nat, j < n ∧ x = nI j := by
  by_cases h : x < 0
  · exact Or.inl h
  · obtain ⟨j, hj, rfl⟩ := nI_of h
    by_cases h2 : j < n
    · exact Or.inr (Or.inr ⟨j, h2, rfl⟩)
    · exact Or.inr (Or.inl (nI_le (by omega) hj))
theorem pk_le {x y : Int32} {A B : Prop} (a b : Nat) (f : a ≤ b → A) (g : b < a → B) (hx : x = nI a := by rfl) (hy : y = nI b := by rfl) (ha : a < 2 ^ 31 := by omega) (hb : b < 2 ^ 31 := by omega) : (x ≤ y → A) ∧ (¬ x ≤ y → B) := by
  subst hx hy
  rw [nI_leI ha hb]
  exact ⟨f, fun z => g (by omega)⟩
theorem pk_lt {x y : Int32} {A B : Prop} (a b : Nat) (f : a < b → A) (g : b ≤ a → B) (hx : x = nI a := by rfl) (hy : y = nI b := by rfl) (ha : a < 2 ^ 31 := by omega) (hb : b < 2 ^ 31 := by omega) : (x < y → A) ∧ (¬ x < y → B) := by
  subst hx hy
  rw [nI_ltI ha hb]
  exact ⟨f, fun z => g (by omega)⟩
theorem pk_eq {x y : Int32} {A B : Prop} (a b : Nat) (f : a = b → A) (g : a ≠ b → B) (hx : x = nI a := by rfl) (hy : y = nI b := by rfl) (ha : a < 2 ^ 31 := by omega) (hb : b < 2 ^ 31 := by omega) : (x = y → A) ∧ (¬ x = y → B) := by
  subst hx hy
  rw [nI_eq ha hb]
  exact ⟨f, g⟩
theorem pk_in {x : Int32} (n N : Nat) (h : n < N) (hx : x = nI n := by rfl) (hN : N < 2 ^ 31 := by omega) : vp_in x N := by
  subst hx
  exact vp_in_nI h hN
theorem pk_cl {x : Int32} (n : Nat) (hx : x = nI n := by rfl) (h : n < 2 ^ 31 := by omega) : x.toNatClampNeg = n := by
  subst hx
  exact nI_clamp h
theorem mr_inj {a b : Nat} (h : nI a = nI b) (ha : a < 200) (hb : b < 200) : a = b := (nI_eq (by omega) (by omega)).mp h
theorem mr_nm1 {a : Nat} (h : nI a = -1) (ha : a < 200) : False := by
  have e := nI_toInt (n := a) (by omega)
  rw [h] at e
  have e2 : ((-1 : Int32)).toInt = -1 := by decide
  omega
theorem mr_uc {f : Nat → Int32} {k j : Nat} {x y : Int32} (hne : k ≠ j) : upd (upd f k x) j y = upd (upd f j y) k x := by
  funext i
  by_cases h1 : i = j
  · have h2 : i ≠ k := fun z => hne (z.symm.trans h1)
    rw [h1, pk_us, pk_un (fun z => hne z.symm), pk_us]
  · rw [pk_un h1]
    by_cases h2 : i = k
    · rw [h2, pk_us, pk_us]
    · rw [pk_un h2, pk_un h2, pk_un h1]
theorem mr_uu {f : Nat → Int32} {k : Nat} {x y : Int32} : upd (upd f k x) k y = upd f k y := by
  funext i
  by_cases h : i = k
  · rw [h, pk_us, pk_us]
  · rw [pk_un h, pk_un h, pk_un h]
theorem mr_ui {f : Nat → Int32} {k : Nat} {x : Int32} (h : f k = x) : upd f k x = f := by
  funext i
  by_cases hi : i = k
  · rw [hi, pk_us, h]
  · rw [pk_un hi]
theorem mr_pg : ∀ (m n : Nat) (f : Nat → Nat), (∀ i, i < n → f i < m) → (∀ i j, i < n → j < n → f i = f j → i = j) → n ≤ m := by
  intro m
  induction m with
  | zero =>
    intro n f hb _
    cases n with
    | zero => exact Nat.le_refl 0
    | succ n => exact absurd (hb 0 (by omega)) (by omega)
  | succ m ih =>
    intro n f hb hi
    cases n with
    | zero => omega
    | succ n =>
      have key : n ≤ m := by
        refine ih n (fun i => if f i = m then f n else f i) ?_ ?_
        · intro i hin
          show (if f i = m then f n else f i) < m
          by_cases h : f i = m
          · rw [if_pos h]
            have h1 := hb n (by omega)
            have h2 : f n ≠ m := fun h3 => by
              have := hi i n (by omega) (by omega) (by omega)
              omega
            omega
          · rw [if_neg h]
            have h1 := hb i (by omega)
            omega
        · intro i j hin hjn he
          have he' : (if f i = m then f n else f i) = (if f j = m then f n else f j) := he
          by_cases h1 : f i = m
          · by_cases h2 : f j = m
            · exact hi i j (by omega) (by omega) (by omega)
            · rw [if_pos h1, if_neg h2] at he'
              have := hi n j (by omega) (by omega) he'
              omega
          · by_cases h2 : f j = m
            · rw [if_neg h1, if_pos h2] at he'
              have := hi i n (by omega) (by omega) he'
              omega
            · rw [if_neg h1, if_neg h2] at he'
              exact hi i j (by omega) (by omega) he'
      omega
/-! the chain of holders -/
def mr_rc (st h : Nat → Int32) : Nat → Nat → Prop
  | 0, p => p < 16 ∧ ¬ st p = 2
  | n + 1, p => p < 16 ∧ st p = 2 ∧ ∃ q, h p = nI q ∧ mr_rc st h n q
theorem mr_rc16 {st h : Nat → Int32} : ∀ {n p : Nat}, mr_rc st h n p → p < 16
  | 0, _, z => z.1
  | _ + 1, _, z => z.1
theorem mr_rcu {st h : Nat → Int32} : ∀ {n m p : Nat}, mr_rc st h n p → mr_rc st h m p → n = m := by
  intro n
  induction n with
  | zero =>
    intro m p a b
    cases m with
    | zero => rfl
    | succ m => exact absurd b.2.1 a.2
  | succ n ih =>
    intro m p a b
    cases m with
    | zero => exact absurd a.2.1 b.2
    | succ m =>
      obtain ⟨a1, a2, q, a3, a4⟩ := a
      obtain ⟨b1, b2, q', b3, b4⟩ := b
      have h1 := mr_rc16 a4
      have h2 := mr_rc16 b4
      have e : q = q' := mr_inj (a3.symm.trans b3) (by omega) (by omega)
      subst e
      rw [ih a4 b4]
theorem mr_rcf {st h : Nat → Int32} : ∀ {n p : Nat}, mr_rc st h n p → ∃ f : Nat → Nat, ∀ i, i ≤ n → mr_rc st h i (f i) := by
  intro n
  induction n with
  | zero =>
    intro p a
    refine ⟨fun _ => p, fun i hi => ?_⟩
    have e : i = 0 := by omega
    subst e
    exact a
  | succ n ih =>
    intro p a
    obtain ⟨a1, a2, q, a3, a4⟩ := a
    obtain ⟨f, hf⟩ := ih a4
    refine ⟨fun i => if i = n + 1 then p else f i, fun i hi => ?_⟩
    show mr_rc st h i (if i = n + 1 then p else f i)
    by_cases e : i = n + 1
    · subst e
      rw [if_pos rfl]
      exact ⟨a1, a2, q, a3, a4⟩
    · rw [if_neg e]
      exact hf i (by omega)
theorem mr_rcb {st h : Nat → Int32} {n p : Nat} (a : mr_rc st h n p) : n ≤ 15 := by
  obtain ⟨f, hf⟩ := mr_rcf a
  have := mr_pg 16 (n + 1) f (fun i hi => mr_rc16 (hf i (by omega))) (fun i j hi hj e => mr_rcu (hf i (by omega)) (by rw [e]; exact hf j (by omega)))
  omega
def mr_on (h : Nat → Int32) (c : Nat) : Nat → Nat → Prop
  | 0, p => p = c
  | n + 1, p => p = c ∨ ∃ q, h p = nI q ∧ q < 16 ∧ mr_on h c n q
def mr_A (st h : Nat → Int32) : Prop := ∀ p, p < 16 → ∃ n, mr_rc st h n p
theorem mr_A1 {st h : Nat → Int32} {c : Nat} {v : Int32} (hA : mr_A st h) (hv : ¬ v = 2) : mr_A (upd st c v) h := by
  have key : ∀ n p, mr_rc st h n p → ∃ m, mr_rc (upd st c v) h m p := by
    intro n
    induction n with
    | zero =>
      intro p a
      refine ⟨0, a.1, ?_⟩
      by_cases e : p = c
      · rw [e, pk_us]; exact hv
      · rw [pk_un e]; exact a.2
    | succ n ih =>
      intro p a
      obtain ⟨a1, a2, q, a3, a4⟩ := a
      by_cases e : p = c
      · refine ⟨0, a1, ?_⟩
        rw [e, pk_us]; exact hv
      · obtain ⟨m, hm⟩ := ih q a4
        refine ⟨m + 1, a1, ?_, q, a3, hm⟩
        rw [pk_un e]; exact a2
  intro p hp
  obtain ⟨n, hn⟩ := hA p hp
  exact key n p hn
theorem mr_A2 {st h : Nat → Int32} {c D m : Nat} (hA : mr_A st h) (hd : mr_rc st h m D) (ho : ¬ mr_on h c m D) : mr_A (upd st c 2) (upd h c (nI D)) := by
  have k1 : ∀ n p, mr_rc st h n p → ¬ mr_on h c n p → mr_rc (upd st c 2) (upd h c (nI D)) n p := by
    intro n
    induction n with
    | zero =>
      intro p a o
      have e : p ≠ c := o
      refine ⟨a.1, ?_⟩
      rw [pk_un e]; exact a.2
    | succ n ih =>
      intro p a o
      obtain ⟨a1, a2, q, a3, a4⟩ := a
      have e : p ≠ c := fun z => o (Or.inl z)
      refine ⟨a1, ?_, q, ?_, ih q a4 (fun z => o (Or.inr ⟨q, a3, mr_rc16 a4, z⟩))⟩
      · rw [pk_un e]; exact a2
      · rw [pk_un e]; exact a3
  have k2 : ∀ n p, mr_rc st h n p → ∃ k, mr_rc (upd st c 2) (upd h c (nI D)) k p := by
    intro n
    induction n with
    | zero =>
      intro p a
      by_cases e : p = c
      · exact ⟨m + 1, a.1, by rw [e, pk_us], D, by rw [e, pk_us], k1 m D hd ho⟩
      · refine ⟨0, a.1, ?_⟩
        rw [pk_un e]; exact a.2
    | succ n ih =>
      intro p a
      obtain ⟨a1, a2, q, a3, a4⟩ := a
      by_cases e : p = c
      · exact ⟨m + 1, a1, by rw [e, pk_us], D, by rw [e, pk_us], k1 m D hd ho⟩
      · obtain ⟨k, hk⟩ := ih q a4
        exact ⟨k + 1, a1, by rw [pk_un e]; exact a2, q, by rw [pk_un e]; exact a3, hk⟩
  intro p hp
  obtain ⟨n, hn⟩ := hA p hp
  exact k2 n p hn
/-! the ordinary messages of a queue: k holds the kinds, the queue begins at cell b -/
def mr_oc (k : Nat → Int32) (b : Nat) : Nat → Nat
  | 0 => 0
  | n + 1 => mr_oc k b n + (if k (b + n) = 4 then 0 else 1)
theorem mr_ocle (k : Nat → Int32) (b : Nat) : ∀ n, mr_oc k b n ≤ n := by
  intro n
  induction n with
  | zero => exact Nat.le_refl 0
  | succ n ih =>
    show mr_oc k b n + (if k (b + n) = 4 then 0 else 1) ≤ n + 1
    by_cases e : k (b + n) = 4
    · rw [if_pos e]; omega
    · rw [if_neg e]; omega
theorem mr_occ {k k' : Nat → Int32} {b b' : Nat} : ∀ {n : Nat}, (∀ i, i < n → k (b + i) = k' (b' + i)) → mr_oc k b n = mr_oc k' b' n := by
  intro n
  induction n with
  | zero => intro _; rfl
  | succ n ih =>
    intro hh
    show mr_oc k b n + (if k (b + n) = 4 then 0 else 1) = mr_oc k' b' n + (if k' (b' + n) = 4 then 0 else 1)
    rw [ih (fun i hi => hh i (by omega)), hh n (by omega)]
theorem mr_och (k : Nat → Int32) (b : Nat) : ∀ n, mr_oc k b (n + 1) = (if k b = 4 then 0 else 1) + mr_oc k (b + 1) n := by
  intro n
  induction n with
  | zero =>
    show 0 + (if k (b + 0) = 4 then 0 else 1) = (if k b = 4 then 0 else 1) + 0
    rw [Nat.add_zero, Nat.zero_add, Nat.add_zero]
  | succ n ih =>
    show mr_oc k b (n + 1) + (if k (b + (n + 1)) = 4 then 0 else 1) = (if k b = 4 then 0 else 1) + (mr_oc k (b + 1) n + (if k (b + 1 + n) = 4 then 0 else 1))
    rw [ih, show b + (n + 1) = b + 1 + n from by omega]
    omega
theorem mr_ocs (k : Nat → Int32) (b n : Nat) : mr_oc k b (n + 1) = mr_oc k b n + (if k (b + n) = 4 then 0 else 1) := rfl
theorem mr_ocx {k : Nat → Int32} {b : Nat} : ∀ {n i : Nat}, i < n → k (b + i) = 4 → mr_oc k b n < n := by
  intro n
  induction n with
  | zero => intro i hi; exact absurd hi (by omega)
  | succ n ih =>
    intro i hi e
    have h1 := mr_ocle k b n
    rw [mr_ocs]
    by_cases ei : i = n
    · rw [← ei, if_pos e]; rw [← ei] at h1; omega
    · have h2 := ih (i := i) (by omega) e
      by_cases e2 : k (b + n) = 4
      · rw [if_pos e2]; omega
      · rw [if_neg e2]; omega
theorem mr_ocn {k : Nat → Int32} {b : Nat} : ∀ {n : Nat}, (∀ i, i < n → ¬ k (b + i) = 4) → mr_oc k b n = n := by
  intro n
  induction n with
  | zero => intro _; rfl
  | succ n ih =>
    intro hh
    rw [mr_ocs, ih (fun i hi => hh i (by omega)), if_neg (hh n (by omega))]
/-! a length changed at one port -/
def mr_ul (l : Nat → Nat) (p n : Nat) : Nat → Nat := fun q => if q = p then n else l q
theorem mr_uls {l : Nat → Nat} {p n : Nat} : mr_ul l p n p = n := if_pos rfl
theorem mr_uln {l : Nat → Nat} {p n q : Nat} (h : q ≠ p) : mr_ul l p n q = l q := if_neg h
