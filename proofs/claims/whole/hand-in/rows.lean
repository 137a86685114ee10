section
/-! pure rows: stores, numbers, the pigeonhole -/
theorem pk_us {f : Nat → Int32} {k : Nat} {x : Int32} : upd f k x k = x := if_pos rfl
theorem pk_un {f : Nat → Int32} {k j : Nat} {x : Int32} (h : j ≠ k) : upd f k x j = f j := if_neg h
theorem pk_sub {a b : Nat} (h : b ≤ a) : nI a - nI b = nI (a - b) := by
  obtain ⟨c, rfl⟩ : ∃ c, a = c + b := ⟨a - b, by omega⟩
  rw [← nI_add, Int32.add_sub_cancel, Nat.add_sub_cancel]
theorem pk_mul (a b : Nat) : nI a * nI b = nI (a * b) := (Int32.ofNat_mul a b).symm
theorem pk_div {a d : Nat} (ha : a < 2 ^ 31) (h0 : 0 < d) (hd : d < 2 ^ 31) : nI a / nI d = nI (a / d) := by
  apply Int32.toInt_inj.mp
  rw [lg_idiv_nonneg (by rw [nI_toInt ha]; omega) (by rw [nI_toInt hd]; omega), nI_toInt ha, nI_toInt hd, nI_toInt (Nat.lt_of_le_of_lt (Nat.div_le_self a d) ha)]
  first | rfl | exact (Int.natCast_ediv _ _).symm
theorem pk_rem {a d : Nat} (ha : a < 2 ^ 31) (h0 : 0 < d) (hd : d < 2 ^ 31) : nI a - nI a / nI d * nI d = nI (a % d) := by
  rw [pk_div ha h0 hd, pk_mul, pk_sub (Nat.div_mul_le_self a d)]
  exact congrArg nI (by have := Nat.div_add_mod' a d; omega)
theorem pk_ix (x : Int32) {n : Nat} (hn : n < 2 ^ 31) : x < 0 ∨ nI n ≤ x ∨ ∃ j : Nat, j < n ∧ x = nI j := by
  by_cases h : x < 0
  · exact Or.inl h
  · obtain ⟨j, hj, rfl⟩ := nI_of h
    by_cases h2 : j < n
    · exact Or.inr (Or.inr ⟨j, h2, rfl⟩)
    · exact Or.inr (Or.inl (nI_le (by omega) hj))
theorem pk_le {x y : Int32} {A B : Prop} (a b : Nat) (f : a ≤ b → A) (g : b < a → B) (hx : x = nI a := by rfl) (hy : y = nI b := by rfl) (ha : a < 2 ^ 31 := by omega) (hb : b < 2 ^ 31 := by omega) : (x ≤ y → A) ∧ (¬ x ≤ y → B) := by
  subst hx hy
  rw [nI_leI ha hb]
  exact ⟨f, fun z => g (by omega)⟩
theorem pk_lt {x y : Int32} {A B : Prop} (a b : Nat) (f : a < b → A) (g : b ≤ a → B) (hx : x = nI a := by rfl) (hy : y = nI b := by rfl) (ha : a < 2 ^ 31 := by omega) (hb : b < 2 ^ 31 := by omega) : (x < y → A) ∧ (¬ x < y → B) := by
  subst hx hy
  rw [nI_ltI ha hb]
  exact ⟨f, fun z => g (by omega)⟩
theorem pk_eq {x y : Int32} {A B : Prop} (a b : Nat) (f : a = b → A) (g : a ≠ b → B) (hx : x = nI a := by rfl) (hy : y = nI b := by rfl) (ha : a < 2 ^ 31 := by omega) (hb : b < 2 ^ 31 := by omega) : (x = y → A) ∧ (¬ x = y → B) := by
  subst hx hy
  rw [nI_eq ha hb]
  exact ⟨f, g⟩
theorem pk_in {x : Int32} (n N : Nat) (h : n < N) (hx : x = nI n := by rfl) (hN : N < 2 ^ 31 := by omega) : vp_in x N := by
  subst hx
  exact vp_in_nI h hN
theorem pk_cl {x : Int32} (n : Nat) (hx : x = nI n := by rfl) (h : n < 2 ^ 31 := by omega) : x.toNatClampNeg = n := by
  subst hx
  exact nI_clamp h
theorem mr_inj {a b : Nat} (h : nI a = nI b) (ha : a < 200) (hb : b < 200) : a = b := (nI_eq (by omega) (by omega)).mp h
theorem mr_nm1 {a : Nat} (h : nI a = -1) (ha : a < 200) : False := by
  have e := nI_toInt (n := a) (by omega)
  rw [h] at e
  have e2 : ((-1 : Int32)).toInt = -1 := by decide
  omega
theorem mr_uc {f : Nat → Int32} {k j : Nat} {x y : Int32} (hne : k ≠ j) : upd (upd f k x) j y = upd (upd f j y) k x := by
  funext i
  by_cases h1 : i = j
  · have h2 : i ≠ k := fun z => hne (z.symm.trans h1)
    rw [h1, pk_us, pk_un (fun z => hne z.symm), pk_us]
  · rw [pk_un h1]
    by_cases h2 : i = k
    · rw [h2, pk_us, pk_us]
    · rw [pk_un h2, pk_un h2, pk_un h1]
theorem mr_uu {f : Nat → Int32} {k : Nat} {x y : Int32} : upd (upd f k x) k y = upd f k y := by
  funext i
  by_cases h : i = k
  · rw [h, pk_us, pk_us]
  · rw [pk_un h, pk_un h, pk_un h]
theorem mr_ui {f : Nat → Int32} {k : Nat} {x : Int32} (h : f k = x) : upd f k x = f := by
  funext i
  by_cases hi : i = k
  · rw [hi, pk_us, h]
  · rw [pk_un hi]
theorem mr_pg : ∀ (m n : Nat) (f : Nat → Nat), (∀ i, i < n → f i < m) → (∀ i j, i < n → j < n → f i = f j → i = j) → n ≤ m := by
  intro m
  induction m with
  | zero =>
    intro n f hb _
    cases n with
    | zero => exact Nat.le_refl 0
    | succ n => exact absurd (hb 0 (by omega)) (by omega)
  | succ m ih =>
    intro n f hb hi
    cases n with
    | zero => omega
    | succ n =>
      have key : n ≤ m := by
        refine ih n (fun i => if f i = m then f n else f i) ?_ ?_
        · intro i hin
          show (if f i = m then f n else f i) < m
          by_cases h : f i = m
          · rw [if_pos h]
            have h1 := hb n (by omega)
            have h2 : f n ≠ m := fun h3 => by
              have := hi i n (by omega) (by omega) (by omega)
              omega
            omega
          · rw [if_neg h]
            have h1 := hb i (by omega)
            omega
        · intro i j hin hjn he
          have he' : (if f i = m then f n else f i) = (if f j = m then f n else f j) := he
          by_cases h1 : f i = m
          · by_cases h2 : f j = m
            · exact hi i j (by omega) (by omega) (by omega)
            · rw [if_pos h1, if_neg h2] at he'
              have := hi n j (by omega) (by omega) he'
              omega
          · by_cases h2 : f j = m
            · rw [if_neg h1, if_pos h2] at he'
              have := hi i n (by omega) (by omega) he'
              omega
            · rw [if_neg h1, if_neg h2] at he'
              exact hi i j (by omega) (by omega) he'
      omega
/-! the chain of holders -/
def mr_rc (st h : Nat → Int32) : Nat → Nat → Prop
  | 0, p => p < 16 ∧ ¬ st p = 2
  | n + 1, p => p < 16 ∧ st p = 2 ∧ ∃ q, h p = nI q ∧ mr_rc st h n q
theorem mr_rc16 {st h : Nat → Int32} : ∀ {n p : Nat}, mr_rc st h n p → p < 16
  | 0, _, z => z.1
  | _ + 1, _, z => z.1
theorem mr_rcu {st h : Nat → Int32} : ∀ {n m p : Nat}, mr_rc st h n p → mr_rc st h m p → n = m := by
  intro n
  induction n with
  | zero =>
    intro m p a b
    cases m with
    | zero => rfl
    | succ m => exact absurd b.2.1 a.2
  | succ n ih =>
    intro m p a b
    cases m with
    | zero => exact absurd a.2.1 b.2
    | succ m =>
      obtain ⟨a1, a2, q, a3, a4⟩ := a
      obtain ⟨b1, b2, q', b3, b4⟩ := b
      have h1 := mr_rc16 a4
      have h2 := mr_rc16 b4
      have e : q = q' := mr_inj (a3.symm.trans b3) (by omega) (by omega)
      subst e
      rw [ih a4 b4]
theorem mr_rcf {st h : Nat → Int32} : ∀ {n p : Nat}, mr_rc st h n p → ∃ f : Nat → Nat, ∀ i, i ≤ n → mr_rc st h i (f i) := by
  intro n
  induction n with
  | zero =>
    intro p a
    refine ⟨fun _ => p, fun i hi => ?_⟩
    have e : i = 0 := by omega
    subst e
    exact a
  | succ n ih =>
    intro p a
    obtain ⟨a1, a2, q, a3, a4⟩ := a
    obtain ⟨f, hf⟩ := ih a4
    refine ⟨fun i => if i = n + 1 then p else f i, fun i hi => ?_⟩
    show mr_rc st h i (if i = n + 1 then p else f i)
    by_cases e : i = n + 1
    · subst e
      rw [if_pos rfl]
      exact ⟨a1, a2, q, a3, a4⟩
    · rw [if_neg e]
      exact hf i (by omega)
theorem mr_rcb {st h : Nat → Int32} {n p : Nat} (a : mr_rc st h n p) : n ≤ 15 := by
  obtain ⟨f, hf⟩ := mr_rcf a
  have := mr_pg 16 (n + 1) f (fun i hi => mr_rc16 (hf i (by omega))) (fun i j hi hj e => mr_rcu (hf i (by omega)) (by rw [e]; exact hf j (by omega)))
  omega
def mr_on (h : Nat → Int32) (c : Nat) : Nat → Nat → Prop
  | 0, p => p = c
  | n + 1, p => p = c ∨ ∃ q, h p = nI q ∧ q < 16 ∧ mr_on h c n q
def mr_A (st h : Nat → Int32) : Prop := ∀ p, p < 16 → ∃ n, mr_rc st h n p
theorem mr_A1 {st h : Nat → Int32} {c : Nat} {v : Int32} (hA : mr_A st h) (hv : ¬ v = 2) : mr_A (upd st c v) h := by
  have key : ∀ n p, mr_rc st h n p → ∃ m, mr_rc (upd st c v) h m p := by
    intro n
    induction n with
    | zero =>
      intro p a
      refine ⟨0, a.1, ?_⟩
      by_cases e : p = c
      · rw [e, pk_us]; exact hv
      · rw [pk_un e]; exact a.2
    | succ n ih =>
      intro p a
      obtain ⟨a1, a2, q, a3, a4⟩ := a
      by_cases e : p = c
      · refine ⟨0, a1, ?_⟩
        rw [e, pk_us]; exact hv
      · obtain ⟨m, hm⟩ := ih q a4
        refine ⟨m + 1, a1, ?_, q, a3, hm⟩
        rw [pk_un e]; exact a2
  intro p hp
  obtain ⟨n, hn⟩ := hA p hp
  exact key n p hn
theorem mr_A2 {st h : Nat → Int32} {c D m : Nat} (hA : mr_A st h) (hd : mr_rc st h m D) (ho : ¬ mr_on h c m D) : mr_A (upd st c 2) (upd h c (nI D)) := by
  have k1 : ∀ n p, mr_rc st h n p → ¬ mr_on h c n p → mr_rc (upd st c 2) (upd h c (nI D)) n p := by
    intro n
    induction n with
    | zero =>
      intro p a o
      have e : p ≠ c := o
      refine ⟨a.1, ?_⟩
      rw [pk_un e]; exact a.2
    | succ n ih =>
      intro p a o
      obtain ⟨a1, a2, q, a3, a4⟩ := a
      have e : p ≠ c := fun z => o (Or.inl z)
      refine ⟨a1, ?_, q, ?_, ih q a4 (fun z => o (Or.inr ⟨q, a3, mr_rc16 a4, z⟩))⟩
      · rw [pk_un e]; exact a2
      · rw [pk_un e]; exact a3
  have k2 : ∀ n p, mr_rc st h n p → ∃ k, mr_rc (upd st c 2) (upd h c (nI D)) k p := by
    intro n
    induction n with
    | zero =>
      intro p a
      by_cases e : p = c
      · exact ⟨m + 1, a.1, by rw [e, pk_us], D, by rw [e, pk_us], k1 m D hd ho⟩
      · refine ⟨0, a.1, ?_⟩
        rw [pk_un e]; exact a.2
    | succ n ih =>
      intro p a
      obtain ⟨a1, a2, q, a3, a4⟩ := a
      by_cases e : p = c
      · exact ⟨m + 1, a1, by rw [e, pk_us], D, by rw [e, pk_us], k1 m D hd ho⟩
      · obtain ⟨k, hk⟩ := ih q a4
        exact ⟨k + 1, a1, by rw [pk_un e]; exact a2, q, by rw [pk_un e]; exact a3, hk⟩
  intro p hp
  obtain ⟨n, hn⟩ := hA p hp
  exact k2 n p hn
/-! the ordinary messages of a queue: k holds the kinds, the queue begins at cell b -/
def mr_oc (k : Nat → Int32) (b : Nat) : Nat → Nat
  | 0 => 0
  | n + 1 => mr_oc k b n + (if k (b + n) = 4 then 0 else 1)
theorem mr_ocle (k : Nat → Int32) (b : Nat) : ∀ n, mr_oc k b n ≤ n := by
  intro n
  induction n with
  | zero => exact Nat.le_refl 0
  | succ n ih =>
    show mr_oc k b n + (if k (b + n) = 4 then 0 else 1) ≤ n + 1
    by_cases e : k (b + n) = 4
    · rw [if_pos e]; omega
    · rw [if_neg e]; omega
theorem mr_occ {k k' : Nat → Int32} {b b' : Nat} : ∀ {n : Nat}, (∀ i, i < n → k (b + i) = k' (b' + i)) → mr_oc k b n = mr_oc k' b' n := by
  intro n
  induction n with
  | zero => intro _; rfl
  | succ n ih =>
    intro hh
    show mr_oc k b n + (if k (b + n) = 4 then 0 else 1) = mr_oc k' b' n + (if k' (b' + n) = 4 then 0 else 1)
    rw [ih (fun i hi => hh i (by omega)), hh n (by omega)]
theorem mr_och (k : Nat → Int32) (b : Nat) : ∀ n, mr_oc k b (n + 1) = (if k b = 4 then 0 else 1) + mr_oc k (b + 1) n := by
  intro n
  induction n with
  | zero =>
    show 0 + (if k (b + 0) = 4 then 0 else 1) = (if k b = 4 then 0 else 1) + 0
    rw [Nat.add_zero, Nat.zero_add, Nat.add_zero]
  | succ n ih =>
    show mr_oc k b (n + 1) + (if k (b + (n + 1)) = 4 then 0 else 1) = (if k b = 4 then 0 else 1) + (mr_oc k (b + 1) n + (if k (b + 1 + n) = 4 then 0 else 1))
    rw [ih, show b + (n + 1) = b + 1 + n from by omega]
    omega
theorem mr_ocs (k : Nat → Int32) (b n : Nat) : mr_oc k b (n + 1) = mr_oc k b n + (if k (b + n) = 4 then 0 else 1) := rfl
theorem mr_ocx {k : Nat → Int32} {b : Nat} : ∀ {n i : Nat}, i < n → k (b + i) = 4 → mr_oc k b n < n := by
  intro n
  induction n with
  | zero => intro i hi; exact absurd hi (by omega)
  | succ n ih =>
    intro i hi e
    have h1 := mr_ocle k b n
    rw [mr_ocs]
    by_cases ei : i = n
    · rw [← ei, if_pos e]; rw [← ei] at h1; omega
    · have h2 := ih (i := i) (by omega) e
      by_cases e2 : k (b + n) = 4
      · rw [if_pos e2]; omega
      · rw [if_neg e2]; omega
theorem mr_ocn {k : Nat → Int32} {b : Nat} : ∀ {n : Nat}, (∀ i, i < n → ¬ k (b + i) = 4) → mr_oc k b n = n := by
  intro n
  induction n with
  | zero => intro _; rfl
  | succ n ih =>
    intro hh
    rw [mr_ocs, ih (fun i hi => hh i (by omega)), if_neg (hh n (by omega))]
/-! a length changed at one port -/
def mr_ul (l : Nat → Nat) (p n : Nat) : Nat → Nat := fun q => if q = p then n else l q
theorem mr_uls {l : Nat → Nat} {p n : Nat} : mr_ul l p n p = n := if_pos rfl
theorem mr_uln {l : Nat → Nat} {p n q : Nat} (h : q ≠ p) : mr_ul l p n q = l q := if_neg h
end
section
/-! the invariant of the states, piece by piece. ty, dy: types and ports of the 36 names (task * 9 + name); st: the ports' states; S, O: their counts; ar: armed; h: holders; qk, qp: the messages' kinds and ports; l: the queues' lengths; W: the ports whose receive right is under way (in no queue and at no name); e: the port whose queue is being thrown away (16: none) -/
def mr_lv (st : Nat → Int32) (p : Nat) : Prop := st p = 1 ∨ st p = 2
def mr_nok (T N al : Nat) (st : Nat → Int32) (c : Nat) (t d : Int32) : Prop := (t = 0 ∧ d = -1) ∨ ((c / 9 < T ∧ 1 ≤ c % 9 ∧ c % 9 ≤ N) ∧ ∃ p, p < al ∧ d = nI p ∧ ((t = 1 ∧ st p = 1) ∨ (t = 3 ∧ st p = 1) ∨ (t = 2 ∧ mr_lv st p) ∨ (t = 4 ∧ mr_lv st p) ∨ t = 8))
def mr_N (T N al : Nat) (st ty dy : Nat → Int32) : Prop := ∀ c, c < 36 → mr_nok T N al st c (ty c) (dy c)
def mr_U (ty dy : Nat → Int32) : Prop := ∀ c c', c < 36 → c' < 36 → (ty c = 1 ∨ ty c = 3) → (ty c' = 1 ∨ ty c' = 3) → dy c = dy c' → c = c'
def mr_P (al : Nat) (st S O ar : Nat → Int32) : Prop := ∀ p, p < 16 → (al ≤ p → st p = 0) ∧ (¬ mr_lv st p → S p = 0 ∧ O p = 0 ∧ ar p = 0) ∧ (ar p = 0 ∨ ar p = 1)
def mr_L (e : Nat) (st : Nat → Int32) (l : Nat → Nat) : Prop := ∀ p, p < 16 → p ≠ e → ¬ mr_lv st p → l p = 0
def mr_O (Q : Nat) (ar qk : Nat → Int32) (l : Nat → Nat) : Prop := ∀ p, p < 16 → mr_oc qk (p * 9) (l p) ≤ Q ∧ l p ≤ mr_oc qk (p * 9) (l p) + 1 ∧ (ar p = 1 → l p = mr_oc qk (p * 9) (l p))
def mr_mok (al : Nat) (W : Nat → Prop) (st h : Nat → Int32) (p : Nat) (k z : Int32) : Prop := ((k = 0 ∨ k = 4) ∧ z = -1) ∨ ∃ x, x < al ∧ z = nI x ∧ (k = 1 ∨ k = 2 ∨ (k = 3 ∧ st x = 2 ∧ h x = nI p ∧ ¬ W x))
def mr_M (al : Nat) (W : Nat → Prop) (st h qk qp : Nat → Int32) (l : Nat → Nat) : Prop := ∀ p i, p < 16 → i < l p → mr_mok al W st h p (qk (p * 9 + i)) (qp (p * 9 + i))
def mr_V (qk qp : Nat → Int32) (l : Nat → Nat) : Prop := ∀ p i p' i', p < 16 → i < l p → p' < 16 → i' < l p' → qk (p * 9 + i) = 3 → qk (p' * 9 + i') = 3 → qp (p * 9 + i) = qp (p' * 9 + i') → p = p' ∧ i = i'
def mr_T (W : Nat → Prop) (st h qk qp : Nat → Int32) (l : Nat → Nat) : Prop := ∀ z, z < 16 → st z = 2 → W z ∨ ∃ p i, p < 16 ∧ i < l p ∧ qk (p * 9 + i) = 3 ∧ qp (p * 9 + i) = nI z ∧ h z = nI p
section
variable {T N Q al al' e p : Nat} {W W' : Nat → Prop} {st st' S O ar h h' ty dy qk qp : Nat → Int32} {l : Nat → Nat} {v w : Int32}
theorem mr_lvn {q : Nat} (hq : q ≠ p) : mr_lv (upd st p v) q ↔ mr_lv st q := by
  unfold mr_lv
  rw [pk_un hq]
theorem mr_lv1 : mr_lv (upd st p 1) p := Or.inl pk_us
theorem mr_lv2 : mr_lv (upd st p 2) p := Or.inr pk_us
/-! names -/
theorem mr_Nset {c : Nat} (hN : mr_N T N al st ty dy) (hn : mr_nok T N al st c v w) : mr_N T N al st (upd ty c v) (upd dy c w) := by
  intro c' hc'
  by_cases e : c' = c
  · subst e
    rw [pk_us, pk_us]
    exact hn
  · rw [pk_un e, pk_un e]
    exact hN c' hc'
theorem mr_Nc (hN : mr_N T N al st ty dy) (ha : al ≤ al') (hc : ∀ c p, c < 36 → p < al → dy c = nI p → (st p = 1 → (ty c = 1 ∨ ty c = 3) → st' p = 1) ∧ (mr_lv st p → (ty c = 2 ∨ ty c = 4) → mr_lv st' p)) : mr_N T N al' st' ty dy := by
  intro c h36
  rcases hN c h36 with z | ⟨z, p, hp, hd, k⟩
  · exact Or.inl z
  · refine Or.inr ⟨z, p, by omega, hd, ?_⟩
    have hh := hc c p h36 hp hd
    rcases k with k | k | k | k | k
    · exact Or.inl ⟨k.1, hh.1 k.2 (Or.inl k.1)⟩
    · exact Or.inr (Or.inl ⟨k.1, hh.1 k.2 (Or.inr k.1)⟩)
    · exact Or.inr (Or.inr (Or.inl ⟨k.1, hh.2 k.2 (Or.inl k.1)⟩))
    · exact Or.inr (Or.inr (Or.inr (Or.inl ⟨k.1, hh.2 k.2 (Or.inr k.1)⟩)))
    · exact Or.inr (Or.inr (Or.inr (Or.inr k)))
theorem mr_N1 (hN : mr_N T N al st ty dy) (ha : al ≤ al') : mr_N T N al' (upd st p 1) ty dy := by
  refine mr_Nc hN ha (fun c q _ _ _ => ⟨fun hs _ => ?_, fun hs _ => ?_⟩)
  · by_cases e : q = p
    · rw [e, pk_us]
    · rw [pk_un e]; exact hs
  · by_cases e : q = p
    · rw [e]; exact mr_lv1
    · exact (mr_lvn e).mpr hs
theorem mr_N2 (hN : mr_N T N al st ty dy) (hn : ∀ c, c < 36 → dy c = nI p → ¬ (ty c = 1 ∨ ty c = 3)) : mr_N T N al (upd st p 2) ty dy := by
  refine mr_Nc hN (Nat.le_refl _) (fun c q h36 _ hd => ⟨fun hs ht => ?_, fun hs _ => ?_⟩)
  · by_cases e : q = p
    · subst e
      exact absurd ht (hn c h36 hd)
    · rw [pk_un e]; exact hs
  · by_cases e : q = p
    · rw [e]; exact mr_lv2
    · exact (mr_lvn e).mpr hs
theorem mr_N3 (hN : mr_N T N al st ty dy) (hn : ∀ c, c < 36 → dy c = nI p → ty c = 8) : mr_N T N al (upd st p v) ty dy := by
  refine mr_Nc hN (Nat.le_refl _) (fun c q h36 _ hd => ⟨fun hs ht => ?_, fun hs ht => ?_⟩)
  · by_cases e : q = p
    · subst e
      rw [hn c h36 hd] at ht
      exact absurd ht (by decide)
    · rw [pk_un e]; exact hs
  · by_cases e : q = p
    · subst e
      rw [hn c h36 hd] at ht
      exact absurd ht (by decide)
    · exact (mr_lvn e).mpr hs
theorem mr_Uset {c : Nat} (hU : mr_U ty dy) (hn : (v = 1 ∨ v = 3) → ∀ c', c' < 36 → c' ≠ c → (ty c' = 1 ∨ ty c' = 3) → ¬ dy c' = w) : mr_U (upd ty c v) (upd dy c w) := by
  intro a b ha hb ta tb hd
  by_cases ea : a = c
  · by_cases eb : b = c
    · rw [ea, eb]
    · subst ea
      rw [pk_us] at ta
      rw [pk_un eb] at tb
      rw [pk_us, pk_un eb] at hd
      exact absurd hd.symm (hn ta b hb eb tb)
  · by_cases eb : b = c
    · subst eb
      rw [pk_us] at tb
      rw [pk_un ea] at ta
      rw [pk_us, pk_un ea] at hd
      exact absurd hd (hn tb a ha ea ta)
    · rw [pk_un ea] at ta
      rw [pk_un eb] at tb
      rw [pk_un ea, pk_un eb] at hd
      exact hU a b ha hb ta tb hd
/-! ports -/
theorem mr_PS (hP : mr_P al st S O ar) (hl : mr_lv st p) : mr_P al st (upd S p v) O ar := by
  intro q hq
  refine ⟨(hP q hq).1, fun hn => ?_, (hP q hq).2.2⟩
  by_cases e : q = p
  · subst e; exact absurd hl hn
  · rw [pk_un e]; exact (hP q hq).2.1 hn
theorem mr_PO (hP : mr_P al st S O ar) (hl : mr_lv st p) : mr_P al st S (upd O p v) ar := by
  intro q hq
  refine ⟨(hP q hq).1, fun hn => ?_, (hP q hq).2.2⟩
  by_cases e : q = p
  · subst e; exact absurd hl hn
  · rw [pk_un e]; exact (hP q hq).2.1 hn
theorem mr_Pa (hP : mr_P al st S O ar) (hl : mr_lv st p) (hv : v = 0 ∨ v = 1) : mr_P al st S O (upd ar p v) := by
  intro q hq
  refine ⟨(hP q hq).1, fun hn => ?_, ?_⟩
  · by_cases e : q = p
    · subst e; exact absurd hl hn
    · rw [pk_un e]; exact (hP q hq).2.1 hn
  · by_cases e : q = p
    · rw [e, pk_us]; exact hv
    · rw [pk_un e]; exact (hP q hq).2.2
theorem mr_Ps (hP : mr_P al st S O ar) (ha : al ≤ al') (hp : p < al') (hv : v = 1 ∨ v = 2) : mr_P al' (upd st p v) S O ar := by
  intro q hq
  refine ⟨fun hn => ?_, fun hn => ?_, (hP q hq).2.2⟩
  · have e : q ≠ p := by omega
    rw [pk_un e]; exact (hP q hq).1 (by omega)
  · by_cases e : q = p
    · subst e
      refine absurd ?_ hn
      unfold mr_lv
      rw [pk_us]; exact hv
    · exact (hP q hq).2.1 (fun z => hn ((mr_lvn e).mpr z))
theorem mr_Pd (hP : mr_P al st S O ar) (hp : p < al) : mr_P al (upd st p 3) (upd S p 0) (upd O p 0) (upd ar p 0) := by
  intro q hq
  by_cases e : q = p
  · subst e
    rw [pk_us, pk_us, pk_us, pk_us]
    exact ⟨fun hn => absurd hn (by omega), fun _ => ⟨rfl, rfl, rfl⟩, Or.inl rfl⟩
  · rw [pk_un e, pk_un e, pk_un e, pk_un e]
    exact ⟨(hP q hq).1, fun hn => (hP q hq).2.1 (fun z => hn ((mr_lvn e).mpr z)), (hP q hq).2.2⟩
/-! lengths of queues -/
theorem mr_Ls (hL : mr_L e st l) (hv : v = 1 ∨ v = 2) : mr_L e (upd st p v) l := by
  intro q hq he hn
  by_cases ep : q = p
  · subst ep
    refine absurd ?_ hn
    unfold mr_lv
    rw [pk_us]; exact hv
  · exact hL q hq he (fun z => hn ((mr_lvn ep).mpr z))
theorem mr_Ld (hL : mr_L 16 st l) : mr_L p (upd st p v) l := by
  intro q hq he hn
  exact hL q hq (by omega) (fun z => hn ((mr_lvn he).mpr z))
theorem mr_Le (hL : mr_L e st l) (h0 : l e = 0) : mr_L 16 st l := by
  intro q hq _ hn
  by_cases ee : q = e
  · rw [ee]; exact h0
  · exact hL q hq ee hn
theorem mr_Lu {n : Nat} (hL : mr_L e st l) (hp : mr_lv st p ∨ p = e) : mr_L e st (mr_ul l p n) := by
  intro q hq he hn
  by_cases ep : q = p
  · subst ep
    rcases hp with hp | hp
    · exact absurd hp hn
    · exact absurd hp he
  · rw [mr_uln ep]; exact hL q hq he hn
/-! notices -/
theorem mr_Oa (hO : mr_O Q ar qk l) (hv : v = 1 → l p = mr_oc qk (p * 9) (l p)) : mr_O Q (upd ar p v) qk l := by
  intro q hq
  refine ⟨(hO q hq).1, (hO q hq).2.1, fun ha => ?_⟩
  by_cases e : q = p
  · subst e
    rw [pk_us] at ha
    exact hv ha
  · rw [pk_un e] at ha
    exact (hO q hq).2.2 ha
/-! messages -/
theorem mr_Mc (hM : mr_M al W st h qk qp l) (ha : al ≤ al') (hc : ∀ x p, x < al → st x = 2 → h x = nI p → ¬ W x → st' x = 2 ∧ h' x = nI p ∧ ¬ W' x) : mr_M al' W' st' h' qk qp l := by
  intro p i hp hi
  rcases hM p i hp hi with z | ⟨x, hx, hz, k⟩
  · exact Or.inl z
  · refine Or.inr ⟨x, by omega, hz, ?_⟩
    rcases k with k | k | k
    · exact Or.inl k
    · exact Or.inr (Or.inl k)
    · exact Or.inr (Or.inr ⟨k.1, hc x p hx k.2.1 k.2.2.1 k.2.2.2⟩)
theorem mr_Tc (hT : mr_T W st h qk qp l) (hc : ∀ x, x < 16 → st' x = 2 → W' x ∨ (st x = 2 ∧ (W x → W' x) ∧ h' x = h x)) : mr_T W' st' h' qk qp l := by
  intro x hx hs
  rcases hc x hx hs with z | ⟨a, b, c⟩
  · exact Or.inl z
  · rcases hT x hx a with z | ⟨p, i, k1, k2, k3, k4, k5⟩
    · exact Or.inl (b z)
    · exact Or.inr ⟨p, i, k1, k2, k3, k4, c.trans k5⟩
end
end
section
/-! the invariant as a whole, and what a store does to it -/
def mr_I (T N Q al : Nat) (W : Nat → Prop) (e : Nat) (ty dy st S O ar h qk qp : Nat → Int32) (l : Nat → Nat) : Prop := mr_N T N al st ty dy ∧ mr_U ty dy ∧ mr_P al st S O ar ∧ mr_L e st l ∧ mr_O Q ar qk l ∧ mr_M al W st h qk qp l ∧ mr_V qk qp l ∧ mr_T W st h qk qp l ∧ mr_A st h
/-- a' is a with the n cells behind cell p * 9 moved down by one -/
def mr_Sh (p n : Nat) (a a' : Nat → Int32) : Prop := (∀ i, i < n → a' (p * 9 + i) = a (p * 9 + (i + 1))) ∧ (∀ c, (c < p * 9 ∨ p * 9 + n ≤ c) → a' c = a c)
def mr_kT (y : Nat) (t d : Int32) : Int32 := if d = nI y then (if t = 1 then 0 else 8) else t
def mr_kD (y : Nat) (t d : Int32) : Int32 := if d = nI y ∧ t = 1 then -1 else d
section
variable {T N Q al al' e p : Nat} {W W' : Nat → Prop} {st st' S O ar h h' ty dy ty' dy' qk qp qk' qp' : Nat → Int32} {l : Nat → Nat} {v w k z : Int32}
theorem mr_IW (hal : al ≤ 16) (hI : mr_I T N Q al W e ty dy st S O ar h qk qp l) (hw : ∀ x, x < 16 → (W x ↔ W' x)) : mr_I T N Q al W' e ty dy st S O ar h qk qp l := by
  obtain ⟨iN, iU, iP, iL, iO, iM, iV, iT, iA⟩ := hI
  exact ⟨iN, iU, iP, iL, iO, mr_Mc iM (Nat.le_refl _) (fun x p hx a b c => ⟨a, b, fun d => c ((hw x (by omega)).mpr d)⟩), iV, mr_Tc iT (fun x hx a => Or.inr ⟨a, (hw x hx).mp, rfl⟩), iA⟩
theorem mr_l9 (hQ : Q ≤ 8) (hI : mr_I T N Q al W e ty dy st S O ar h qk qp l) {q : Nat} (hq : q < 16) : l q ≤ 9 := by
  have := hI.2.2.2.2.1 q hq
  omega
theorem mr_app (hal : al ≤ 16) (hQ : Q ≤ 8) (hI : mr_I T N Q al W e ty dy st S O ar h qk qp l) (hp : p < 16) (hl : mr_lv st p) (hm : ((k = 0 ∨ k = 4) ∧ z = -1) ∨ ∃ x, x < al ∧ z = nI x ∧ (k = 1 ∨ k = 2 ∨ (k = 3 ∧ st x = 2 ∧ h x = nI p ∧ W x))) (ho : (k = 4 ∧ ar p = 0 ∧ l p = mr_oc qk (p * 9) (l p)) ∨ (¬ k = 4 ∧ mr_oc qk (p * 9) (l p) < Q)) : l p ≤ 8 ∧ mr_I T N Q al (fun x => W x ∧ ¬ (k = 3 ∧ z = nI x)) e ty dy st S O ar h (upd qk (p * 9 + l p) k) (upd qp (p * 9 + l p) z) (mr_ul l p (l p + 1)) := by
  obtain ⟨iN, iU, iP, iL, iO, iM, iV, iT, iA⟩ := hI
  have o := iO p hp
  have l8 : l p ≤ 8 := by
    rcases ho with ⟨_, _, z⟩ | ⟨_, z⟩
    · omega
    · omega
  have l9 : ∀ q, q < 16 → l q ≤ 9 := fun q hq => by
    have := iO q hq
    omega
  have old : ∀ q i, q < 16 → i < l q → q * 9 + i ≠ p * 9 + l p := by
    intro q i hq hi z
    have h9 := l9 q hq
    have e1 : q = p := by omega
    rw [e1] at hi z
    omega
  have spl : ∀ q i, q < 16 → i < mr_ul l p (l p + 1) q → (q = p ∧ i = l p) ∨ i < l q := by
    intro q i hq hi
    by_cases e1 : q = p
    · rw [e1, mr_uls] at hi
      by_cases e2 : i = l p
      · exact Or.inl ⟨e1, e2⟩
      · exact Or.inr (by rw [e1]; omega)
    · rw [mr_uln e1] at hi
      exact Or.inr hi
  have fresh : k = 3 → ∀ q i, q < 16 → i < l q → qk (q * 9 + i) = 3 → qp (q * 9 + i) = z → False := by
    intro hk q i hq hi hk3 hz3
    rcases hm with m | ⟨x, hx, hz, kk⟩
    · rw [hk] at m
      exact absurd m.1 (by decide)
    · rw [hk] at kk
      rcases kk with kk | kk | kk
      · exact absurd kk (by decide)
      · exact absurd kk (by decide)
      · rcases iM q i hq hi with m | ⟨x', hx', hz', kk'⟩
        · rw [hk3] at m
          exact absurd m.1 (by decide)
        · rw [hk3] at kk'
          rcases kk' with kk' | kk' | kk'
          · exact absurd kk' (by decide)
          · exact absurd kk' (by decide)
          · have ee : x' = x := mr_inj (hz'.symm.trans (hz3.trans hz)) (by omega) (by omega)
            rw [ee] at kk'
            exact kk'.2.2.2 kk.2.2.2
  refine ⟨l8, iN, iU, iP, mr_Lu iL (Or.inl hl), ?_, ?_, ?_, ?_, iA⟩
  · intro q hq
    by_cases e1 : q = p
    · rw [e1, mr_uls, mr_ocs, pk_us, mr_occ (k := upd qk (p * 9 + l p) k) (k' := qk) (b' := p * 9) (fun i hi => pk_un (old p i hp hi))]
      rcases ho with ⟨a, b, c⟩ | ⟨a, b⟩
      · rw [if_pos a]
        exact ⟨by omega, by omega, fun z => absurd (b.symm.trans z) (by decide)⟩
      · rw [if_neg a]
        exact ⟨by omega, by omega, fun z => by have := o.2.2 z; omega⟩
    · rw [mr_uln e1, mr_occ (k := upd qk (p * 9 + l p) k) (k' := qk) (b' := q * 9) (fun i hi => pk_un (old q i hq hi))]
      exact iO q hq
  · intro q i hq hi
    rcases spl q i hq hi with ⟨e1, e2⟩ | hi'
    · rw [e1, e2, pk_us, pk_us]
      rcases hm with m | ⟨x, hx, hz, kk⟩
      · exact Or.inl m
      · refine Or.inr ⟨x, hx, hz, ?_⟩
        rcases kk with kk | kk | kk
        · exact Or.inl kk
        · exact Or.inr (Or.inl kk)
        · exact Or.inr (Or.inr ⟨kk.1, kk.2.1, kk.2.2.1, fun w => w.2 ⟨kk.1, hz⟩⟩)
    · rw [pk_un (old q i hq hi'), pk_un (old q i hq hi')]
      rcases iM q i hq hi' with m | ⟨x, hx, hz, kk⟩
      · exact Or.inl m
      · refine Or.inr ⟨x, hx, hz, ?_⟩
        rcases kk with kk | kk | kk
        · exact Or.inl kk
        · exact Or.inr (Or.inl kk)
        · exact Or.inr (Or.inr ⟨kk.1, kk.2.1, kk.2.2.1, fun w => kk.2.2.2 w.1⟩)
  · intro q i q' i' hq hi hq' hi' k1 k2 hd
    rcases spl q i hq hi with ⟨e1, e2⟩ | h1
    · rcases spl q' i' hq' hi' with ⟨e1', e2'⟩ | h2
      · exact ⟨e1.trans e1'.symm, e2.trans e2'.symm⟩
      · rw [e1, e2, pk_us] at k1
        rw [pk_un (old q' i' hq' h2)] at k2
        rw [e1, e2, pk_us, pk_un (old q' i' hq' h2)] at hd
        exact absurd (fresh k1 q' i' hq' h2 k2 hd.symm) id
    · rcases spl q' i' hq' hi' with ⟨e1', e2'⟩ | h2
      · rw [e1', e2', pk_us] at k2
        rw [pk_un (old q i hq h1)] at k1
        rw [e1', e2', pk_us, pk_un (old q i hq h1)] at hd
        exact absurd (fresh k2 q i hq h1 k1 hd) id
      · rw [pk_un (old q i hq h1)] at k1
        rw [pk_un (old q' i' hq' h2)] at k2
        rw [pk_un (old q i hq h1), pk_un (old q' i' hq' h2)] at hd
        exact iV q i q' i' hq h1 hq' h2 k1 k2 hd
  · intro x hx hs
    rcases iT x hx hs with w | ⟨q, i, a1, a2, a3, a4, a5⟩
    · by_cases c : k = 3 ∧ z = nI x
      · refine Or.inr ⟨p, l p, hp, by rw [mr_uls]; omega, by rw [pk_us]; exact c.1, by rw [pk_us]; exact c.2, ?_⟩
        rcases hm with m | ⟨x', hx', hz, kk⟩
        · rw [c.1] at m
          exact absurd m.1 (by decide)
        · rw [c.1] at kk
          rcases kk with kk | kk | kk
          · exact absurd kk (by decide)
          · exact absurd kk (by decide)
          · have ee : x' = x := mr_inj (hz.symm.trans c.2) (by omega) (by omega)
            rw [ee] at kk
            exact kk.2.2.1
      · exact Or.inl ⟨w, c⟩
    · refine Or.inr ⟨q, i, a1, ?_, by rw [pk_un (old q i a1 a2)]; exact a3, by rw [pk_un (old q i a1 a2)]; exact a4, a5⟩
      by_cases e1 : q = p
      · rw [e1, mr_uls]
        rw [e1] at a2
        omega
      · rw [mr_uln e1]
        exact a2
theorem mr_rem {n : Nat} (hQ : Q ≤ 8) (hI : mr_I T N Q al W e ty dy st S O ar h qk qp l) (hp : p < 16) (hn : l p = n + 1) (hk : mr_Sh p n qk qk') (hz : mr_Sh p n qp qp') (hl : mr_lv st p ∨ p = e) : mr_I T N Q al (fun x => W x ∨ (qk (p * 9) = 3 ∧ qp (p * 9) = nI x)) e ty dy st S O ar h qk' qp' (mr_ul l p n) := by
  obtain ⟨iN, iU, iP, iL, iO, iM, iV, iT, iA⟩ := hI
  have l9 : ∀ q, q < 16 → l q ≤ 9 := fun q hq => by
    have := iO q hq
    omega
  have n8 : n ≤ 8 := by
    have := l9 p hp
    omega
  have g : ∀ q i, q < 16 → i < mr_ul l p n q → ∃ j, j < l q ∧ qk' (q * 9 + i) = qk (q * 9 + j) ∧ qp' (q * 9 + i) = qp (q * 9 + j) ∧ (q = p → j = i + 1) ∧ (q ≠ p → j = i) := by
    intro q i hq hi
    by_cases e1 : q = p
    · rw [e1, mr_uls] at hi
      exact ⟨i + 1, by rw [e1]; omega, by rw [e1]; exact hk.1 i hi, by rw [e1]; exact hz.1 i hi, fun _ => rfl, fun z => absurd e1 z⟩
    · rw [mr_uln e1] at hi
      have h9 := l9 q hq
      have hc : q * 9 + i < p * 9 ∨ p * 9 + n ≤ q * 9 + i := by omega
      exact ⟨i, hi, hk.2 _ hc, hz.2 _ hc, fun z => absurd z e1, fun _ => rfl⟩
  refine ⟨iN, iU, iP, mr_Lu iL hl, ?_, ?_, ?_, ?_, iA⟩
  · intro q hq
    by_cases e1 : q = p
    · rw [e1, mr_uls]
      have c : mr_oc qk' (p * 9) n = mr_oc qk (p * 9 + 1) n := mr_occ (fun i hi => (hk.1 i hi).trans (congrArg qk (by omega)))
      have o := iO p hp
      have x := mr_ocle qk (p * 9 + 1) n
      rw [hn, mr_och] at o
      rw [c]
      by_cases h4 : qk (p * 9) = 4
      · rw [if_pos h4] at o
        exact ⟨by omega, by omega, fun ha => by have := o.2.2 ha; omega⟩
      · rw [if_neg h4] at o
        exact ⟨by omega, by omega, fun ha => by have := o.2.2 ha; omega⟩
    · rw [mr_uln e1, mr_occ (k := qk') (k' := qk) (b' := q * 9) (fun i hi => ?_)]
      · exact iO q hq
      · have h9 := l9 q hq
        exact hk.2 _ (by omega)
  · intro q i hq hi
    obtain ⟨j, hj, ek, ez, j1, j2⟩ := g q i hq hi
    rw [ek, ez]
    rcases iM q j hq hj with m | ⟨x, hx, hx2, kk⟩
    · exact Or.inl m
    · refine Or.inr ⟨x, hx, hx2, ?_⟩
      rcases kk with kk | kk | kk
      · exact Or.inl kk
      · exact Or.inr (Or.inl kk)
      · refine Or.inr (Or.inr ⟨kk.1, kk.2.1, kk.2.2.1, fun w => ?_⟩)
        rcases w with w | w
        · exact kk.2.2.2 w
        · have vv := iV q j p 0 hq hj hp (by omega) kk.1 w.1 (hx2.trans w.2.symm)
          have := j1 vv.1
          omega
  · intro q i q' i' hq hi hq' hi' k1 k2 hd
    obtain ⟨j, hj, ek, ez, j1, j2⟩ := g q i hq hi
    obtain ⟨j', hj', ek', ez', j1', j2'⟩ := g q' i' hq' hi'
    rw [ek] at k1
    rw [ek'] at k2
    rw [ez, ez'] at hd
    have vv := iV q j q' j' hq hj hq' hj' k1 k2 hd
    refine ⟨vv.1, ?_⟩
    by_cases e1 : q = p
    · have a := j1 e1
      have b := j1' (vv.1.symm.trans e1)
      omega
    · have a := j2 e1
      have b := j2' (fun z => e1 (vv.1.trans z))
      omega
  · intro x hx hs
    rcases iT x hx hs with w | ⟨q, j, a1, a2, a3, a4, a5⟩
    · exact Or.inl (Or.inl w)
    · by_cases e1 : q = p
      · subst e1
        cases j with
        | zero => exact Or.inl (Or.inr ⟨a3, a4⟩)
        | succ i =>
          have hi : i < n := by omega
          exact Or.inr ⟨q, i, a1, by rw [mr_uls]; exact hi, (hk.1 i hi).trans a3, (hz.1 i hi).trans a4, a5⟩
      · have h9 := l9 q a1
        have hc : q * 9 + j < p * 9 ∨ p * 9 + n ≤ q * 9 + j := by omega
        exact Or.inr ⟨q, j, a1, by rw [mr_uln e1]; exact a2, (hk.2 _ hc).trans a3, (hz.2 _ hc).trans a4, a5⟩
theorem mr_I0 (hI : mr_I T N Q al W e ty dy st S O ar h qk qp l) (ha : al < 16) : mr_I T N Q (al + 1) W e ty dy (upd st al 1) S O ar h qk qp l := by
  obtain ⟨iN, iU, iP, iL, iO, iM, iV, iT, iA⟩ := hI
  have h0 := (iP al ha).1 (Nat.le_refl _)
  refine ⟨mr_N1 iN (by omega), iU, mr_Ps iP (by omega) (by omega) (Or.inl rfl), mr_Ls iL (Or.inl rfl), iO, mr_Mc iM (by omega) (fun x p hx a b c => ⟨?_, b, c⟩), iV, mr_Tc iT (fun x hx a => Or.inr ⟨?_, id, rfl⟩), mr_A1 iA (by decide)⟩
  · rw [pk_un (by omega)]; exact a
  · by_cases ee : x = al
    · rw [ee, pk_us] at a
      exact absurd a (by decide)
    · rw [pk_un ee] at a
      exact a
theorem mr_I7 {c D m : Nat} (hal : al ≤ 16) (hI : mr_I T N Q al W e ty dy st S O ar h qk qp l) (hc : c < al) (hs : ¬ st c = 2) (hn : ∀ x, x < 36 → dy x = nI c → ¬ (ty x = 1 ∨ ty x = 3)) (hd : mr_rc st h m D) (ho : ¬ mr_on h c m D) : mr_I T N Q al (fun x => W x ∨ x = c) e ty dy (upd st c 2) S O ar (upd h c (nI D)) qk qp l := by
  obtain ⟨iN, iU, iP, iL, iO, iM, iV, iT, iA⟩ := hI
  refine ⟨mr_N2 iN hn, iU, mr_Ps iP (Nat.le_refl _) hc (Or.inr rfl), mr_Ls iL (Or.inr rfl), iO, mr_Mc iM (Nat.le_refl _) (fun x p hx a b f => ?_), iV, mr_Tc iT (fun x hx a => ?_), mr_A2 iA hd ho⟩
  · have ee : x ≠ c := fun z => hs (by rw [← z]; exact a)
    rw [pk_un ee, pk_un ee]
    exact ⟨a, b, fun g => g.elim f ee⟩
  · by_cases ee : x = c
    · exact Or.inl (Or.inr ee)
    · rw [pk_un ee] at a
      exact Or.inr ⟨a, Or.inl, pk_un ee⟩
theorem mr_I8 {c : Nat} (hal : al ≤ 16) (hI : mr_I T N Q al W e ty dy st S O ar h qk qp l) (hc : c < al) (hw : W c) : mr_I T N Q al (fun x => W x ∧ x ≠ c) e ty dy (upd st c 1) S O ar h qk qp l := by
  obtain ⟨iN, iU, iP, iL, iO, iM, iV, iT, iA⟩ := hI
  refine ⟨mr_N1 iN (Nat.le_refl _), iU, mr_Ps iP (Nat.le_refl _) hc (Or.inl rfl), mr_Ls iL (Or.inl rfl), iO, mr_Mc iM (Nat.le_refl _) (fun x p hx a b f => ?_), iV, mr_Tc iT (fun x hx a => ?_), mr_A1 iA (by decide)⟩
  · have ee : x ≠ c := fun z => f (by rw [z]; exact hw)
    rw [pk_un ee]
    exact ⟨a, b, fun g => f g.1⟩
  · by_cases ee : x = c
    · rw [ee, pk_us] at a
      exact absurd a (by decide)
    · rw [pk_un ee] at a
      exact Or.inr ⟨a, fun w => ⟨w, ee⟩, rfl⟩
theorem mr_I9 {y : Nat} (hal : al ≤ 16) (hI : mr_I T N Q al W 16 ty dy st S O ar h qk qp l) (hy : y < al) (hn : ∀ x, x < 36 → dy x = nI y → ty x = 8) (hw : st y = 2 → W y) : mr_I T N Q al (fun x => W x ∧ x ≠ y) y ty dy (upd st y 3) (upd S y 0) (upd O y 0) (upd ar y 0) h qk qp l := by
  obtain ⟨iN, iU, iP, iL, iO, iM, iV, iT, iA⟩ := hI
  refine ⟨mr_N3 iN hn, iU, mr_Pd iP hy, mr_Ld iL, mr_Oa iO (fun z => absurd z (by decide)), mr_Mc iM (Nat.le_refl _) (fun x p hx a b f => ?_), iV, mr_Tc iT (fun x hx a => ?_), mr_A1 iA (by decide)⟩
  · have ee : x ≠ y := fun z => f (by rw [z]; exact hw (by rw [← z]; exact a))
    rw [pk_un ee]
    exact ⟨a, b, fun g => f g.1⟩
  · by_cases ee : x = y
    · rw [ee, pk_us] at a
      exact absurd a (by decide)
    · rw [pk_un ee] at a
      exact Or.inr ⟨a, fun w => ⟨w, ee⟩, rfl⟩
theorem mr_Ie (hI : mr_I T N Q al W e ty dy st S O ar h qk qp l) (h0 : l e = 0) : mr_I T N Q al W 16 ty dy st S O ar h qk qp l := by
  obtain ⟨iN, iU, iP, iL, iO, iM, iV, iT, iA⟩ := hI
  exact ⟨iN, iU, iP, mr_Le iL h0, iO, iM, iV, iT, iA⟩
theorem mr_In {c : Nat} (hI : mr_I T N Q al W e ty dy st S O ar h qk qp l) (hn : mr_nok T N al st c v w) (hu : (v = 1 ∨ v = 3) → ∀ c', c' < 36 → c' ≠ c → (ty c' = 1 ∨ ty c' = 3) → ¬ dy c' = w) : mr_I T N Q al W e (upd ty c v) (upd dy c w) st S O ar h qk qp l := by
  obtain ⟨iN, iU, iP, iL, iO, iM, iV, iT, iA⟩ := hI
  exact ⟨mr_Nset iN hn, mr_Uset iU hu, iP, iL, iO, iM, iV, iT, iA⟩
theorem mr_IS (hI : mr_I T N Q al W e ty dy st S O ar h qk qp l) (hl : mr_lv st p) : mr_I T N Q al W e ty dy st (upd S p v) O ar h qk qp l := by
  obtain ⟨iN, iU, iP, iL, iO, iM, iV, iT, iA⟩ := hI
  exact ⟨iN, iU, mr_PS iP hl, iL, iO, iM, iV, iT, iA⟩
theorem mr_IO (hI : mr_I T N Q al W e ty dy st S O ar h qk qp l) (hl : mr_lv st p) : mr_I T N Q al W e ty dy st S (upd O p v) ar h qk qp l := by
  obtain ⟨iN, iU, iP, iL, iO, iM, iV, iT, iA⟩ := hI
  exact ⟨iN, iU, mr_PO iP hl, iL, iO, iM, iV, iT, iA⟩
theorem mr_Ia (hI : mr_I T N Q al W e ty dy st S O ar h qk qp l) (hl : mr_lv st p) (hv : v = 0 ∨ v = 1) (hv1 : v = 1 → l p = mr_oc qk (p * 9) (l p)) : mr_I T N Q al W e ty dy st S O (upd ar p v) h qk qp l := by
  obtain ⟨iN, iU, iP, iL, iO, iM, iV, iT, iA⟩ := hI
  exact ⟨iN, iU, mr_Pa iP hl hv, iL, mr_Oa iO hv1, iM, iV, iT, iA⟩
theorem mr_kill {y : Nat} (hal : al ≤ 16) (hN : mr_N T N al st ty dy) (hU : mr_U ty dy) (hy : y < al) (hk : ∀ c, c < 36 → ty' c = mr_kT y (ty c) (dy c) ∧ dy' c = mr_kD y (ty c) (dy c)) : mr_N T N al st ty' dy' ∧ mr_U ty' dy' ∧ (∀ c, c < 36 → dy' c = nI y → ty' c = 8) := by
  have f : ∀ c, c < 36 → (ty' c = 1 ∨ ty' c = 3) → (ty c = 1 ∨ ty c = 3) ∧ dy' c = dy c := by
    intro c hc ht
    rw [(hk c hc).1] at ht
    rw [(hk c hc).2]
    unfold mr_kT at ht
    unfold mr_kD
    by_cases e1 : dy c = nI y
    · rw [if_pos e1] at ht
      by_cases e2 : ty c = 1
      · rw [if_pos e2] at ht
        exact absurd ht (by decide)
      · rw [if_neg e2] at ht
        exact absurd ht (by decide)
    · rw [if_neg e1] at ht
      rw [if_neg (fun z => e1 z.1)]
      exact ⟨ht, rfl⟩
  refine ⟨?_, ?_, ?_⟩
  · intro c hc
    rw [(hk c hc).1, (hk c hc).2]
    unfold mr_kT mr_kD
    by_cases e1 : dy c = nI y
    · by_cases e2 : ty c = 1
      · rw [if_pos e1, if_pos e2, if_pos ⟨e1, e2⟩]
        exact Or.inl ⟨rfl, rfl⟩
      · rw [if_pos e1, if_neg e2, if_neg (fun z => e2 z.2)]
        rcases hN c hc with m | ⟨m, p, hp, hd, _⟩
        · exact absurd (e1.symm.trans m.2) (fun z => mr_nm1 z (by omega))
        · exact Or.inr ⟨m, p, hp, hd, Or.inr (Or.inr (Or.inr (Or.inr rfl)))⟩
    · rw [if_neg e1, if_neg (fun z => e1 z.1)]
      exact hN c hc
  · intro c c' hc hc' t t' hd
    have a := f c hc t
    have b := f c' hc' t'
    rw [a.2, b.2] at hd
    exact hU c c' hc hc' a.1 b.1 hd
  · intro c hc hd
    rw [(hk c hc).2] at hd
    rw [(hk c hc).1]
    unfold mr_kD at hd
    unfold mr_kT
    by_cases e3 : dy c = nI y ∧ ty c = 1
    · rw [if_pos e3] at hd
      exact absurd hd.symm (fun z => mr_nm1 z (by omega))
    · rw [if_neg e3] at hd
      rw [if_pos hd, if_neg (fun z => e3 ⟨hd, z⟩)]
end
end
section
/-! the two sides' queues agree: a of the component, b of the reference; of port e's queue the component has passed over off cells -/
def mr_G (e off : Nat) (l : Nat → Nat) (a b : Nat → Int32) : Prop := ∀ p i, p < 16 → i < l p → a (p * 9 + (i + (if p = e then off else 0))) = b (p * 9 + i)
def mr_LX (e : Nat) (l : Nat → Nat) (lx : Nat → Int32) : Prop := ∀ p, p < 16 → lx p = nI (if p = e then 0 else l p)
def mr_LY (l : Nat → Nat) (ly : Nat → Int32) : Prop := ∀ p, p < 16 → ly p = nI (l p)
def mr_NN (tx dx ty dy : Nat → Int32) : Prop := ∀ t m, t < 4 → m < 8 → tx (t * 8 + m) = ty (t * 9 + (m + 1)) ∧ dx (t * 8 + m) = dy (t * 9 + (m + 1))
/-- the least of 1 .. N that has pr; 0 if there is none -/
def mr_lst (pr : Nat → Prop) (N r : Nat) : Prop := (r = 0 ∧ ∀ n, 1 ≤ n → n ≤ N → ¬ pr n) ∨ (1 ≤ r ∧ r ≤ N ∧ pr r ∧ ∀ n, 1 ≤ n → n < r → ¬ pr n)
section
variable {e off p n : Nat} {l : Nat → Nat} {a b a' b' lx ly tx dx ty dy : Nat → Int32} {v w : Int32}
theorem mr_lstE (pr : Nat → Prop) : ∀ N, ∃ r, mr_lst pr N r := by
  intro N
  induction N with
  | zero => exact ⟨0, Or.inl ⟨rfl, fun n h1 h2 => absurd h1 (by omega)⟩⟩
  | succ N ih =>
    obtain ⟨r, hr⟩ := ih
    rcases hr with ⟨h0, h1⟩ | ⟨h1, h2, h3, h4⟩
    · by_cases hp : pr (N + 1)
      · exact ⟨N + 1, Or.inr ⟨by omega, Nat.le_refl _, hp, fun n a b => h1 n a (by omega)⟩⟩
      · refine ⟨0, Or.inl ⟨rfl, fun n a b => ?_⟩⟩
        by_cases en : n = N + 1
        · rw [en]; exact hp
        · exact h1 n a (by omega)
    · exact ⟨r, Or.inr ⟨h1, by omega, h3, h4⟩⟩
theorem mr_lstC {pr pr' : Nat → Prop} {N r : Nat} (hr : mr_lst pr N r) (hc : ∀ n, 1 ≤ n → n ≤ N → (pr n ↔ pr' n)) : mr_lst pr' N r := by
  rcases hr with ⟨h0, h1⟩ | ⟨h1, h2, h3, h4⟩
  · exact Or.inl ⟨h0, fun n a b c => h1 n a b ((hc n a b).mpr c)⟩
  · exact Or.inr ⟨h1, h2, (hc r h1 h2).mp h3, fun n a b c => h4 n a b ((hc n a (by omega)).mpr c)⟩
theorem mr_Gapp (l9 : ∀ q, q < 16 → l q ≤ 9) (l8 : l p ≤ 8) (he : p ≠ e) (hb : e < 16 → l e + off ≤ 9) (hG : mr_G e off l a b) : mr_G e off (mr_ul l p (l p + 1)) (upd a (p * 9 + l p) v) (upd b (p * 9 + l p) v) := by
  intro q i hq hi
  by_cases e1 : q = p
  · subst e1
    rw [mr_uls] at hi
    rw [if_neg he, Nat.add_zero]
    by_cases c : i = l q
    · rw [c, pk_us, pk_us]
    · rw [pk_un (by omega), pk_un (by omega)]
      have := hG q i hq (by omega)
      rw [if_neg he, Nat.add_zero] at this
      exact this
  · rw [mr_uln e1] at hi
    have h9 := l9 q hq
    have g := hG q i hq hi
    by_cases e2 : q = e
    · rw [if_pos e2] at g ⊢
      have hb' := hb (by omega)
      rw [← e2] at hb'
      rw [pk_un (by omega), pk_un (by omega)]
      exact g
    · rw [if_neg e2] at g ⊢
      rw [pk_un (by omega), pk_un (by omega)]
      exact g
theorem mr_Grem (l9 : ∀ q, q < 16 → l q ≤ 9) (hp : p < 16) (hn : l p = n + 1) (he : ¬ e < 16) (hG : mr_G e off l a b) (ha : mr_Sh p n a a') (hb : mr_Sh p n b b') : mr_G e off (mr_ul l p n) a' b' := by
  intro q i hq hi
  have e2 : q ≠ e := by omega
  rw [if_neg e2, Nat.add_zero]
  have hp9 := l9 p hp
  by_cases e1 : q = p
  · subst e1
    rw [mr_uls] at hi
    rw [ha.1 i hi, hb.1 i hi]
    have g := hG q (i + 1) hq (by omega)
    rw [if_neg e2, Nat.add_zero] at g
    exact g
  · rw [mr_uln e1] at hi
    have h9 := l9 q hq
    have g := hG q i hq hi
    rw [if_neg e2, Nat.add_zero] at g
    rw [ha.2 _ (by omega), hb.2 _ (by omega)]
    exact g
theorem mr_Gpop (l9 : ∀ q, q < 16 → l q ≤ 9) (hp : p < 16) (hn : l p = n + 1) (hG : mr_G p off l a b) (hb : mr_Sh p n b b') : mr_G p (off + 1) (mr_ul l p n) a b' := by
  intro q i hq hi
  have hp9 := l9 p hp
  by_cases e1 : q = p
  · subst e1
    rw [mr_uls] at hi
    rw [hb.1 i hi, if_pos rfl]
    have g := hG q (i + 1) hq (by omega)
    rw [if_pos rfl] at g
    rw [← g]
    exact congrArg a (by omega)
  · rw [mr_uln e1] at hi
    have h9 := l9 q hq
    have g := hG q i hq hi
    rw [if_neg e1] at g ⊢
    rw [hb.2 _ (by omega)]
    exact g
theorem mr_LYu (hL : mr_LY l ly) : mr_LY (mr_ul l p n) (upd ly p (nI n)) := by
  intro q hq
  by_cases e1 : q = p
  · rw [e1, pk_us, mr_uls]
  · rw [pk_un e1, mr_uln e1]; exact hL q hq
theorem mr_LXu (he : p ≠ e) (hL : mr_LX e l lx) : mr_LX e (mr_ul l p n) (upd lx p (nI n)) := by
  intro q hq
  by_cases e1 : q = p
  · rw [e1, pk_us, if_neg he, mr_uls]
  · rw [pk_un e1, mr_uln e1]; exact hL q hq
theorem mr_LXe (hL : mr_LX e l lx) : mr_LX e (mr_ul l e n) lx := by
  intro q hq
  by_cases e1 : q = e
  · rw [if_pos e1]
    have := hL q hq
    rw [if_pos e1] at this
    exact this
  · rw [mr_uln e1]; exact hL q hq
theorem mr_LXd (hL : mr_LX 16 l lx) : mr_LX e l (upd lx e 0) := by
  intro q hq
  by_cases e1 : q = e
  · rw [e1, pk_us, if_pos rfl]; exact nI_0.symm
  · have := hL q hq
    rw [if_neg (by omega)] at this
    rw [pk_un e1, if_neg e1]; exact this
theorem mr_LX16 (h0 : l e = 0) (hL : mr_LX e l lx) : mr_LX 16 l lx := by
  intro q hq
  have := hL q hq
  rw [if_neg (by omega)]
  by_cases e1 : q = e
  · rw [if_pos e1] at this
    rw [this, e1, h0]
  · rw [if_neg e1] at this
    exact this
theorem mr_NNu {t m : Nat} (hm : m < 8) (hN : mr_NN tx dx ty dy) : mr_NN (upd tx (t * 8 + m) v) (upd dx (t * 8 + m) w) (upd ty (t * 9 + (m + 1)) v) (upd dy (t * 9 + (m + 1)) w) := by
  intro t' m' ht' hm'
  by_cases c : t' * 8 + m' = t * 8 + m
  · have c1 : t' = t := by omega
    have c2 : m' = m := by omega
    rw [c1, c2, pk_us, pk_us, pk_us, pk_us]
    exact ⟨rfl, rfl⟩
  · have c' : t' * 9 + (m' + 1) ≠ t * 9 + (m + 1) := by omega
    rw [pk_un c, pk_un c, pk_un c', pk_un c']
    exact hN t' m' ht' hm'
theorem mr_NNt {t m : Nat} (hm : m < 8) (hN : mr_NN tx dx ty dy) : mr_NN (upd tx (t * 8 + m) v) dx (upd ty (t * 9 + (m + 1)) v) dy := by
  intro t' m' ht' hm'
  by_cases c : t' * 8 + m' = t * 8 + m
  · have c1 : t' = t := by omega
    have c2 : m' = m := by omega
    rw [c1, c2, pk_us, pk_us]
    exact ⟨rfl, (hN t m (by omega) hm).2⟩
  · have c' : t' * 9 + (m' + 1) ≠ t * 9 + (m + 1) := by omega
    rw [pk_un c, pk_un c']
    exact hN t' m' ht' hm'
end
end
section
/-! the relation between the arrays of the two sides -/
def mr_B (T P N Q al : Nat) : Prop := 2 ≤ T ∧ T ≤ 4 ∧ 4 ≤ P ∧ P ≤ 16 ∧ 4 ≤ N ∧ N ≤ 8 ∧ 2 ≤ Q ∧ Q ≤ 8 ∧ al ≤ P
def mr_R (W : Nat → Prop) (e off T P N Q al : Nat) (l : Nat → Nat) (tx dx st S O ar lx h mi mk mp ty dy qi qk qp ly : Nat → Int32) : Prop := mr_B T P N Q al ∧ mr_NN tx dx ty dy ∧ mr_LX e l lx ∧ mr_LY l ly ∧ mr_G e off l mi qi ∧ mr_G e off l mk qk ∧ mr_G e off l mp qp ∧ (e < 16 → l e + off ≤ 9) ∧ mr_I T N Q al W e ty dy st S O ar h qk qp l
section
variable {W W' : Nat → Prop} {e off T P N Q al p n : Nat} {l : Nat → Nat} {tx dx st S O ar lx h mi mk mp ty dy qi qk qp ly mi' mk' mp' qi' qk' qp' : Nat → Int32} {v w i k z : Int32}
theorem mr_Rapp (hR : mr_R W e off T P N Q al l tx dx st S O ar lx h mi mk mp ty dy qi qk qp ly) (hp : p < 16) (he : p ≠ e) (hl : mr_lv st p) (hm : ((k = 0 ∨ k = 4) ∧ z = -1) ∨ ∃ x, x < al ∧ z = nI x ∧ (k = 1 ∨ k = 2 ∨ (k = 3 ∧ st x = 2 ∧ h x = nI p ∧ W x))) (ho : (k = 4 ∧ ar p = 0 ∧ l p = mr_oc qk (p * 9) (l p)) ∨ (¬ k = 4 ∧ mr_oc qk (p * 9) (l p) < Q)) : l p ≤ 8 ∧ mr_R (fun x => W x ∧ ¬ (k = 3 ∧ z = nI x)) e off T P N Q al (mr_ul l p (l p + 1)) tx dx st S O ar (upd lx p (nI (l p + 1))) h (upd mi (p * 9 + l p) i) (upd mk (p * 9 + l p) k) (upd mp (p * 9 + l p) z) ty dy (upd qi (p * 9 + l p) i) (upd qk (p * 9 + l p) k) (upd qp (p * 9 + l p) z) (upd ly p (nI (l p + 1))) := by
  obtain ⟨hB, hNN, hX, hY, g1, g2, g3, hb, hI⟩ := hR
  have l9 : ∀ q, q < 16 → l q ≤ 9 := fun q hq => mr_l9 (by unfold mr_B at hB; omega) hI hq
  obtain ⟨l8, hI'⟩ := mr_app (by unfold mr_B at hB; omega) (by unfold mr_B at hB; omega) hI hp hl hm ho
  refine ⟨l8, hB, hNN, mr_LXu he hX, mr_LYu hY, mr_Gapp l9 l8 he hb g1, mr_Gapp l9 l8 he hb g2, mr_Gapp l9 l8 he hb g3, fun h16 => ?_, hI'⟩
  rw [mr_uln (fun q => he q.symm)]
  exact hb h16
theorem mr_Rrem (hR : mr_R W 16 off T P N Q al l tx dx st S O ar lx h mi mk mp ty dy qi qk qp ly) (hp : p < 16) (hl : mr_lv st p) (hn : l p = n + 1) (h1 : mr_Sh p n mi mi') (h2 : mr_Sh p n mk mk') (h3 : mr_Sh p n mp mp') (k1 : mr_Sh p n qi qi') (k2 : mr_Sh p n qk qk') (k3 : mr_Sh p n qp qp') : mr_R (fun x => W x ∨ (qk (p * 9) = 3 ∧ qp (p * 9) = nI x)) 16 off T P N Q al (mr_ul l p n) tx dx st S O ar (upd lx p (nI n)) h mi' mk' mp' ty dy qi' qk' qp' (upd ly p (nI n)) := by
  obtain ⟨hB, hNN, hX, hY, g1, g2, g3, hb, hI⟩ := hR
  have l9 : ∀ q, q < 16 → l q ≤ 9 := fun q hq => mr_l9 (by unfold mr_B at hB; omega) hI hq
  exact ⟨hB, hNN, mr_LXu (by omega) hX, mr_LYu hY, mr_Grem l9 hp hn (by omega) g1 h1 k1, mr_Grem l9 hp hn (by omega) g2 h2 k2, mr_Grem l9 hp hn (by omega) g3 h3 k3, fun h16 => absurd h16 (by omega), mr_rem (by unfold mr_B at hB; omega) hI hp hn k2 k3 (Or.inl hl)⟩
theorem mr_Rpop (hR : mr_R W p off T P N Q al l tx dx st S O ar lx h mi mk mp ty dy qi qk qp ly) (hp : p < 16) (hn : l p = n + 1) (k1 : mr_Sh p n qi qi') (k2 : mr_Sh p n qk qk') (k3 : mr_Sh p n qp qp') : mr_R (fun x => W x ∨ (qk (p * 9) = 3 ∧ qp (p * 9) = nI x)) p (off + 1) T P N Q al (mr_ul l p n) tx dx st S O ar lx h mi mk mp ty dy qi' qk' qp' (upd ly p (nI n)) := by
  obtain ⟨hB, hNN, hX, hY, g1, g2, g3, hb, hI⟩ := hR
  have l9 : ∀ q, q < 16 → l q ≤ 9 := fun q hq => mr_l9 (by unfold mr_B at hB; omega) hI hq
  refine ⟨hB, hNN, mr_LXe hX, mr_LYu hY, mr_Gpop l9 hp hn g1 k1, mr_Gpop l9 hp hn g2 k2, mr_Gpop l9 hp hn g3 k3, fun h16 => ?_, mr_rem (by unfold mr_B at hB; omega) hI hp hn k2 k3 (Or.inr rfl)⟩
  rw [mr_uls]
  have := hb h16
  omega
theorem mr_RW (hR : mr_R W e off T P N Q al l tx dx st S O ar lx h mi mk mp ty dy qi qk qp ly) (hw : ∀ x, x < 16 → (W x ↔ W' x)) : mr_R W' e off T P N Q al l tx dx st S O ar lx h mi mk mp ty dy qi qk qp ly := by
  obtain ⟨hB, hNN, hX, hY, g1, g2, g3, hb, hI⟩ := hR
  exact ⟨hB, hNN, hX, hY, g1, g2, g3, hb, mr_IW (by unfold mr_B at hB; omega) hI hw⟩
/-- a name is given a type and a port -/
theorem mr_Rn {t m : Nat} (hR : mr_R W e off T P N Q al l tx dx st S O ar lx h mi mk mp ty dy qi qk qp ly) (hm : m < 8) (hn : mr_nok T N al st (t * 9 + (m + 1)) v w) (hu : (v = 1 ∨ v = 3) → ∀ c', c' < 36 → c' ≠ t * 9 + (m + 1) → (ty c' = 1 ∨ ty c' = 3) → ¬ dy c' = w) : mr_R W e off T P N Q al l (upd tx (t * 8 + m) v) (upd dx (t * 8 + m) w) st S O ar lx h mi mk mp (upd ty (t * 9 + (m + 1)) v) (upd dy (t * 9 + (m + 1)) w) qi qk qp ly := by
  obtain ⟨hB, hNN, hX, hY, g1, g2, g3, hb, hI⟩ := hR
  exact ⟨hB, mr_NNu hm hNN, hX, hY, g1, g2, g3, hb, mr_In hI hn hu⟩
/-- a name is given a type, its port stays -/
theorem mr_Rt {t m : Nat} (hR : mr_R W e off T P N Q al l tx dx st S O ar lx h mi mk mp ty dy qi qk qp ly) (hm : m < 8) (hw : dy (t * 9 + (m + 1)) = w) (hn : mr_nok T N al st (t * 9 + (m + 1)) v w) (hu : (v = 1 ∨ v = 3) → ∀ c', c' < 36 → c' ≠ t * 9 + (m + 1) → (ty c' = 1 ∨ ty c' = 3) → ¬ dy c' = w) : mr_R W e off T P N Q al l (upd tx (t * 8 + m) v) dx st S O ar lx h mi mk mp (upd ty (t * 9 + (m + 1)) v) dy qi qk qp ly := by
  obtain ⟨hB, hNN, hX, hY, g1, g2, g3, hb, hI⟩ := hR
  have hI' := mr_In hI hn hu
  rw [mr_ui hw] at hI'
  exact ⟨hB, mr_NNt hm hNN, hX, hY, g1, g2, g3, hb, hI'⟩
theorem mr_Rf {t m : Nat} (hR : mr_R W e off T P N Q al l tx dx st S O ar lx h mi mk mp ty dy qi qk qp ly) (hm : m < 8) : mr_R W e off T P N Q al l (upd tx (t * 8 + m) 0) (upd dx (t * 8 + m) (-1)) st S O ar lx h mi mk mp (upd ty (t * 9 + (m + 1)) 0) (upd dy (t * 9 + (m + 1)) (-1)) qi qk qp ly :=
  mr_Rn hR hm (Or.inl ⟨rfl, rfl⟩) (fun a => absurd a (by decide))
theorem mr_RS (hR : mr_R W e off T P N Q al l tx dx st S O ar lx h mi mk mp ty dy qi qk qp ly) (hl : mr_lv st p) : mr_R W e off T P N Q al l tx dx st (upd S p v) O ar lx h mi mk mp ty dy qi qk qp ly := by
  obtain ⟨hB, hNN, hX, hY, g1, g2, g3, hb, hI⟩ := hR
  exact ⟨hB, hNN, hX, hY, g1, g2, g3, hb, mr_IS hI hl⟩
theorem mr_RO (hR : mr_R W e off T P N Q al l tx dx st S O ar lx h mi mk mp ty dy qi qk qp ly) (hl : mr_lv st p) : mr_R W e off T P N Q al l tx dx st S (upd O p v) ar lx h mi mk mp ty dy qi qk qp ly := by
  obtain ⟨hB, hNN, hX, hY, g1, g2, g3, hb, hI⟩ := hR
  exact ⟨hB, hNN, hX, hY, g1, g2, g3, hb, mr_IO hI hl⟩
theorem mr_Ra (hR : mr_R W e off T P N Q al l tx dx st S O ar lx h mi mk mp ty dy qi qk qp ly) (hl : mr_lv st p) (hv : v = 0 ∨ v = 1) (hv1 : v = 1 → l p = mr_oc qk (p * 9) (l p)) : mr_R W e off T P N Q al l tx dx st S O (upd ar p v) lx h mi mk mp ty dy qi qk qp ly := by
  obtain ⟨hB, hNN, hX, hY, g1, g2, g3, hb, hI⟩ := hR
  exact ⟨hB, hNN, hX, hY, g1, g2, g3, hb, mr_Ia hI hl hv hv1⟩
theorem mr_R7 {c D m : Nat} (hR : mr_R W e off T P N Q al l tx dx st S O ar lx h mi mk mp ty dy qi qk qp ly) (hc : c < al) (hs : ¬ st c = 2) (hn : ∀ x, x < 36 → dy x = nI c → ¬ (ty x = 1 ∨ ty x = 3)) (hd : mr_rc st h m D) (ho : ¬ mr_on h c m D) : mr_R (fun x => W x ∨ x = c) e off T P N Q al l tx dx (upd st c 2) S O ar lx (upd h c (nI D)) mi mk mp ty dy qi qk qp ly := by
  obtain ⟨hB, hNN, hX, hY, g1, g2, g3, hb, hI⟩ := hR
  exact ⟨hB, hNN, hX, hY, g1, g2, g3, hb, mr_I7 (by unfold mr_B at hB; omega) hI hc hs hn hd ho⟩
theorem mr_R8 {c : Nat} (hR : mr_R W e off T P N Q al l tx dx st S O ar lx h mi mk mp ty dy qi qk qp ly) (hc : c < al) (hw : W c) : mr_R (fun x => W x ∧ x ≠ c) e off T P N Q al l tx dx (upd st c 1) S O ar lx h mi mk mp ty dy qi qk qp ly := by
  obtain ⟨hB, hNN, hX, hY, g1, g2, g3, hb, hI⟩ := hR
  exact ⟨hB, hNN, hX, hY, g1, g2, g3, hb, mr_I8 (by unfold mr_B at hB; omega) hI hc hw⟩
end
end
section
/-! more of the relation: a notice, a death, a new port; the bits of the types -/
def mr_tok (t : Int32) : Prop := t = 0 ∨ t = 1 ∨ t = 2 ∨ t = 3 ∨ t = 4 ∨ t = 8
theorem mr_a1 {t : Int32} (h : mr_tok t) : t &&& 1 = 0 ↔ ¬ (t = 1 ∨ t = 3) := by
  rcases h with h | h | h | h | h | h <;> subst h <;> decide
theorem mr_a2 {t : Int32} (h : mr_tok t) : t &&& 2 = 0 ↔ ¬ (t = 2 ∨ t = 3) := by
  rcases h with h | h | h | h | h | h <;> subst h <;> decide
theorem mr_a3 {t : Int32} (h : mr_tok t) : t &&& 3 = 0 ↔ ¬ (t = 1 ∨ t = 2 ∨ t = 3) := by
  rcases h with h | h | h | h | h | h <;> subst h <;> decide
theorem mr_a4 {t : Int32} (h : mr_tok t) : t &&& 4 = 0 ↔ ¬ t = 4 := by
  rcases h with h | h | h | h | h | h <;> subst h <;> decide
theorem mr_a6 {t : Int32} (h : mr_tok t) : t &&& 6 = 0 ↔ ¬ (t = 2 ∨ t = 3 ∨ t = 4) := by
  rcases h with h | h | h | h | h | h <;> subst h <;> decide
theorem mr_s1 (x : Int32) : x - 1 = 0 ↔ x = 1 := by
  constructor
  · intro h
    have e : x = (x - 1) + 1 := by grind
    rw [h] at e
    exact e
  · intro h
    rw [h]
    decide
section
variable {W W' : Nat → Prop} {e off T P N Q al p n : Nat} {l : Nat → Nat} {tx dx st S O ar lx h mi mk mp ty dy qi qk qp ly tx' dx' ty' dy' : Nat → Int32} {v w i k z : Int32}
theorem mr_Ntok {c : Nat} (hN : mr_N T N al st ty dy) (hc : c < 36) : mr_tok (ty c) := by
  rcases hN c hc with m | ⟨_, _, _, _, k⟩
  · exact Or.inl m.1
  · rcases k with k | k | k | k | k
    · exact Or.inr (Or.inl k.1)
    · exact Or.inr (Or.inr (Or.inr (Or.inl k.1)))
    · exact Or.inr (Or.inr (Or.inl k.1))
    · exact Or.inr (Or.inr (Or.inr (Or.inr (Or.inl k.1))))
    · exact Or.inr (Or.inr (Or.inr (Or.inr (Or.inr k))))
/-- a name with a receive right -/
theorem mr_Nr {c : Nat} (hN : mr_N T N al st ty dy) (hc : c < 36) (ht : ty c = 1 ∨ ty c = 3) : ∃ p, p < al ∧ dy c = nI p ∧ st p = 1 := by
  rcases hN c hc with m | ⟨_, p, hp, hd, k⟩
  · rw [m.1] at ht
    exact absurd ht (by decide)
  · rcases k with k | k | k | k | k
    · exact ⟨p, hp, hd, k.2⟩
    · exact ⟨p, hp, hd, k.2⟩
    · rw [k.1] at ht
      exact absurd ht (by decide)
    · rw [k.1] at ht
      exact absurd ht (by decide)
    · rw [k] at ht
      exact absurd ht (by decide)
/-- a name with a right -/
theorem mr_Ns {c : Nat} (hN : mr_N T N al st ty dy) (hc : c < 36) (ht : ¬ ty c = 0) (ht8 : ¬ ty c = 8) : ∃ p, p < al ∧ dy c = nI p ∧ mr_lv st p := by
  rcases hN c hc with m | ⟨_, p, hp, hd, k⟩
  · exact absurd m.1 ht
  · rcases k with k | k | k | k | k
    · exact ⟨p, hp, hd, Or.inl k.2⟩
    · exact ⟨p, hp, hd, Or.inl k.2⟩
    · exact ⟨p, hp, hd, k.2⟩
    · exact ⟨p, hp, hd, k.2⟩
    · exact absurd k ht8
theorem mr_Nz {c : Nat} (hN : mr_N T N al st ty dy) (hc : c < 36) (ht : ¬ ty c = 0) : (c / 9 < T ∧ 1 ≤ c % 9 ∧ c % 9 ≤ N) ∧ ∃ p, p < al ∧ dy c = nI p := by
  rcases hN c hc with m | ⟨m, p, hp, hd, _⟩
  · exact absurd m.1 ht
  · exact ⟨m, p, hp, hd⟩
theorem mr_Nf {c : Nat} (hN : mr_N T N al st ty dy) (hc : c < 36) (ht : ty c = 0) : dy c = -1 := by
  rcases hN c hc with m | ⟨_, _, _, _, k⟩
  · exact m.2
  · rw [ht] at k
    exact absurd k (by
      rintro (k | k | k | k | k)
      · exact absurd k.1 (by decide)
      · exact absurd k.1 (by decide)
      · exact absurd k.1 (by decide)
      · exact absurd k.1 (by decide)
      · exact absurd k (by decide))
theorem mr_Rnote (hR : mr_R W e off T P N Q al l tx dx st S O ar lx h mi mk mp ty dy qi qk qp ly) (hp : p < 16) (he : p ≠ e) (hl : mr_lv st p) (ha : ar p = 1) : l p ≤ 8 ∧ mr_R W e off T P N Q al (mr_ul l p (l p + 1)) tx dx st (upd S p v) O (upd ar p 0) (upd lx p (nI (l p + 1))) h (upd mi (p * 9 + l p) i) (upd mk (p * 9 + l p) 4) (upd mp (p * 9 + l p) (-1)) ty dy (upd qi (p * 9 + l p) i) (upd qk (p * 9 + l p) 4) (upd qp (p * 9 + l p) (-1)) (upd ly p (nI (l p + 1))) := by
  have hI := hR.2.2.2.2.2.2.2.2
  have o := (hI.2.2.2.2.1 p hp).2.2 ha
  have r1 := mr_RS (v := v) hR hl
  have r2 := mr_Ra (v := 0) r1 hl (Or.inl rfl) (fun z => absurd z (by decide))
  obtain ⟨l8, r3⟩ := mr_Rapp (i := i) (k := 4) (z := -1) r2 hp he hl (Or.inl ⟨Or.inr rfl, rfl⟩) (Or.inl ⟨rfl, pk_us, o⟩)
  exact ⟨l8, mr_RW r3 (fun x _ => ⟨fun w => w.1, fun w => ⟨w, fun c => absurd c.1 (by decide)⟩⟩)⟩
theorem mr_Gd {a b : Nat → Int32} (hG : mr_G 16 off l a b) : mr_G e 0 l a b := by
  intro q j hq hj
  have := hG q j hq hj
  rw [if_neg (by omega)] at this
  rw [ite_self]
  exact this
theorem mr_Gz {a b : Nat → Int32} (h0 : l e = 0) (hG : mr_G e off l a b) : mr_G 16 0 l a b := by
  intro q j hq hj
  rw [ite_self]
  have g := hG q j hq hj
  have ne : q ≠ e := fun z => by
    rw [z, h0] at hj
    omega
  rw [if_neg ne] at g
  exact g
theorem mr_R9 {y : Nat} (hR : mr_R W 16 off T P N Q al l tx dx st S O ar lx h mi mk mp ty dy qi qk qp ly) (hy : y < al) (hk : ∀ c, c < 36 → ty' c = mr_kT y (ty c) (dy c) ∧ dy' c = mr_kD y (ty c) (dy c)) (hx : ∀ c, c < 32 → tx' c = mr_kT y (tx c) (dx c) ∧ dx' c = mr_kD y (tx c) (dx c)) (hw : st y = 2 → W y) : mr_R (fun x => W x ∧ x ≠ y) y 0 T P N Q al l tx' dx' (upd st y 3) (upd S y 0) (upd O y 0) (upd ar y 0) (upd lx y 0) h mi mk mp ty' dy' qi qk qp ly := by
  obtain ⟨hB, hNN, hX, hY, g1, g2, g3, hb, hI⟩ := hR
  have hal : al ≤ 16 := by unfold mr_B at hB; omega
  have hQ : Q ≤ 8 := by unfold mr_B at hB; omega
  obtain ⟨kN, kU, k8⟩ := mr_kill hal hI.1 hI.2.1 hy hk
  refine ⟨hB, ?_, mr_LXd hX, hY, mr_Gd g1, mr_Gd g2, mr_Gd g3, fun h16 => ?_, mr_I9 hal ⟨kN, kU, hI.2.2⟩ hy k8 hw⟩
  · intro t m ht hm
    have a := hx (t * 8 + m) (by omega)
    have b := hk (t * 9 + (m + 1)) (by omega)
    have c := hNN t m ht hm
    rw [a.1, a.2, b.1, b.2, c.1, c.2]
    exact ⟨rfl, rfl⟩
  · have := mr_l9 hQ hI h16
    omega
theorem mr_Rz (hR : mr_R W e off T P N Q al l tx dx st S O ar lx h mi mk mp ty dy qi qk qp ly) (h0 : l e = 0) : mr_R W 16 0 T P N Q al l tx dx st S O ar lx h mi mk mp ty dy qi qk qp ly := by
  obtain ⟨hB, hNN, hX, hY, g1, g2, g3, hb, hI⟩ := hR
  exact ⟨hB, hNN, mr_LX16 h0 hX, hY, mr_Gz h0 g1, mr_Gz h0 g2, mr_Gz h0 g3, fun h16 => absurd h16 (by omega), mr_Ie hI h0⟩
theorem mr_Rnew {t m : Nat} (hR : mr_R W e off T P N Q al l tx dx st S O ar lx h mi mk mp ty dy qi qk qp ly) (ha : al < P) (ht : t < T) (hm : m < N) : mr_R W e off T P N Q (al + 1) l (upd tx (t * 8 + m) 1) (upd dx (t * 8 + m) (nI al)) (upd st al 1) S O ar lx h mi mk mp (upd ty (t * 9 + (m + 1)) 1) (upd dy (t * 9 + (m + 1)) (nI al)) qi qk qp ly := by
  obtain ⟨hB, hNN, hX, hY, g1, g2, g3, hb, hI⟩ := hR
  have hB' : mr_B T P N Q (al + 1) := by unfold mr_B at hB ⊢; omega
  unfold mr_B at hB
  have r : mr_R W e off T P N Q (al + 1) l tx dx (upd st al 1) S O ar lx h mi mk mp ty dy qi qk qp ly := ⟨hB', hNN, hX, hY, g1, g2, g3, hb, mr_I0 hI (by omega)⟩
  refine mr_Rn r (by omega) (Or.inr ⟨by omega, al, by omega, rfl, Or.inl ⟨rfl, pk_us⟩⟩) (fun _ c hc _ hr hd => ?_)
  obtain ⟨p, hp, hd', _⟩ := mr_Nr hI.1 hc hr
  have := mr_inj (hd'.symm.trans hd) (by omega) (by omega)
  omega
end
end
section
/-! shifting a queue step by step; who holds a port in transit; the worklist of the dying -/
theorem mr_Sh0 {p : Nat} {a : Nat → Int32} : mr_Sh p 0 a a := ⟨fun i hi => absurd hi (by omega), fun _ _ => rfl⟩
theorem mr_ShS {p i : Nat} {a a' : Nat → Int32} (hs : mr_Sh p i a a') : mr_Sh p (i + 1) a (upd a' (p * 9 + i) (a' (p * 9 + (i + 1)))) := by
  refine ⟨fun j hj => ?_, fun c hc => ?_⟩
  · by_cases e : j = i
    · rw [e, pk_us]
      exact hs.2 _ (by omega)
    · rw [pk_un (by omega)]
      exact hs.1 j (by omega)
  · rw [pk_un (by omega)]
    exact hs.2 c (by omega)
/-- f lists the worklist: tail entries, the first hd of them are dead, W are the others -/
def mr_WI (W : Nat → Prop) (al hd tail : Nat) (st wl : Nat → Int32) (f : Nat → Nat) : Prop := hd ≤ tail ∧ (∀ j, j < tail → wl j = nI (f j) ∧ f j < al) ∧ (∀ i j, i < tail → j < tail → f i = f j → i = j) ∧ (∀ j, j < hd → st (f j) = 3) ∧ (∀ x, x < 16 → (W x ↔ ∃ j, hd ≤ j ∧ j < tail ∧ f j = x))
section
variable {W W' : Nat → Prop} {e off T P N Q al p n hd tail : Nat} {l : Nat → Nat} {tx dx st S O ar lx h mi mk mp ty dy qi qk qp ly wl : Nat → Int32} {f : Nat → Nat} {v w i k z : Int32}
theorem mr_WI16 (hal : al ≤ 16) (hw : mr_WI W al hd tail st wl f) : tail ≤ 16 :=
  mr_pg 16 tail f (fun j hj => Nat.lt_of_lt_of_le (hw.2.1 j hj).2 hal) hw.2.2.1
theorem mr_WIw (hw : mr_WI W al hd tail st wl f) (hc : ∀ x, x < 16 → (W x ↔ W' x)) : mr_WI W' al hd tail st wl f :=
  ⟨hw.1, hw.2.1, hw.2.2.1, hw.2.2.2.1, fun x hx => (hc x hx).symm.trans (hw.2.2.2.2 x hx)⟩
/-- the next port dies -/
theorem mr_WId (hal : al ≤ 16) (hw : mr_WI W al hd tail st wl f) (ht : hd < tail) : mr_WI (fun x => W x ∧ x ≠ f hd) al (hd + 1) tail (upd st (f hd) 3) wl f := by
  obtain ⟨w0, w1, w2, w3, w4⟩ := hw
  refine ⟨ht, w1, w2, fun j hj => ?_, fun x hx => ?_⟩
  · by_cases e : j = hd
    · rw [e, pk_us]
    · have ne : f j ≠ f hd := fun q => e (w2 j hd (by omega) ht q)
      rw [pk_un ne]
      exact w3 j (by omega)
  · constructor
    · intro q
      obtain ⟨j, a, b, c⟩ := (w4 x hx).mp q.1
      have : j ≠ hd := fun r => q.2 (by rw [← c, r])
      exact ⟨j, by omega, b, c⟩
    · intro q
      obtain ⟨j, a, b, c⟩ := q
      refine ⟨(w4 x hx).mpr ⟨j, by omega, b, c⟩, fun r => ?_⟩
      have := w2 j hd b ht (c.trans r)
      omega
/-- a port in transit comes onto the worklist -/
theorem mr_WIp {x : Nat} (hal : al ≤ 16) (hw : mr_WI W al hd tail st wl f) (hx : x < al) (hs : st x = 2) (hn : ¬ W x) : tail < 16 ∧ mr_WI (fun y => W y ∨ y = x) al hd (tail + 1) st (upd wl tail (nI x)) (fun j => if j = tail then x else f j) := by
  obtain ⟨w0, w1, w2, w3, w4⟩ := hw
  have fr : ∀ j, j < tail → f j ≠ x := by
    intro j hj q
    by_cases c : j < hd
    · have := w3 j c
      rw [q, hs] at this
      exact absurd this (by decide)
    · exact hn ((w4 x (by omega)).mpr ⟨j, by omega, hj, q⟩)
  have R : mr_WI (fun y => W y ∨ y = x) al hd (tail + 1) st (upd wl tail (nI x)) (fun j => if j = tail then x else f j) := by
    refine ⟨by omega, fun j hj => ?_, fun i j hi hj q => ?_, fun j hj => ?_, fun y hy => ?_⟩
    · show upd wl tail (nI x) j = nI (if j = tail then x else f j) ∧ (if j = tail then x else f j) < al
      by_cases c : j = tail
      · rw [if_pos c, c, pk_us]
        exact ⟨rfl, hx⟩
      · rw [if_neg c, pk_un c]
        exact w1 j (by omega)
    · have q' : (if i = tail then x else f i) = (if j = tail then x else f j) := q
      by_cases c1 : i = tail
      · by_cases c2 : j = tail
        · omega
        · rw [if_pos c1, if_neg c2] at q'
          exact absurd q'.symm (fr j (by omega))
      · by_cases c2 : j = tail
        · rw [if_neg c1, if_pos c2] at q'
          exact absurd q' (fr i (by omega))
        · rw [if_neg c1, if_neg c2] at q'
          exact w2 i j (by omega) (by omega) q'
    · show st (if j = tail then x else f j) = 3
      rw [if_neg (by omega)]
      exact w3 j hj
    · constructor
      · intro q
        rcases q with q | q
        · obtain ⟨j, a, b, c⟩ := (w4 y hy).mp q
          exact ⟨j, a, by omega, by show (if j = tail then x else f j) = y; rw [if_neg (by omega)]; exact c⟩
        · exact ⟨tail, w0, by omega, by show (if tail = tail then x else f tail) = y; rw [if_pos rfl]; exact q.symm⟩
      · intro q
        obtain ⟨j, a, b, c⟩ := q
        have c' : (if j = tail then x else f j) = y := c
        by_cases c1 : j = tail
        · rw [if_pos c1] at c'
          exact Or.inr c'.symm
        · rw [if_neg c1] at c'
          exact Or.inl ((w4 y hy).mpr ⟨j, a, by omega, c'⟩)
  have := mr_WI16 hal R
  exact ⟨by omega, R⟩
theorem mr_lval (hP : mr_P al st S O ar) (hp : p < 16) (hl : mr_lv st p) : p < al := by
  by_cases c : al ≤ p
  · have := (hP p hp).1 c
    unfold mr_lv at hl
    rw [this] at hl
    exact absurd hl (by decide)
  · omega
theorem mr_hold {x : Nat} (hI : mr_I T N Q al (fun _ => False) 16 ty dy st S O ar h qk qp l) (hx : x < 16) (hs : st x = 2) : ∃ q, q < al ∧ h x = nI q ∧ (∃ i, i < l q ∧ qk (q * 9 + i) = 3 ∧ qp (q * 9 + i) = nI x) ∧ (∀ q' i', q' < 16 → i' < l q' → qk (q' * 9 + i') = 3 → qp (q' * 9 + i') = nI x → q' = q) := by
  obtain ⟨iN, iU, iP, iL, iO, iM, iV, iT, iA⟩ := hI
  rcases iT x hx hs with w | ⟨q, i, a1, a2, a3, a4, a5⟩
  · exact absurd w id
  · have hq : q < al := by
      by_cases c : mr_lv st q
      · exact mr_lval iP a1 c
      · have := iL q a1 (by omega) c
        omega
    refine ⟨q, hq, a5, ⟨i, a2, a3, a4⟩, fun q' i' b1 b2 b3 b4 => ?_⟩
    exact (iV q' i' q i b1 b2 a1 a2 b3 a3 (b4.trans a4.symm)).1
theorem mr_Rw1 {y : Nat} (hR : mr_R (fun _ => False) e off T P N Q al l tx dx st S O ar lx h mi mk mp ty dy qi qk qp ly) (hs : ¬ st y = 2) : mr_R (fun x => x = y) e off T P N Q al l tx dx st S O ar lx h mi mk mp ty dy qi qk qp ly := by
  obtain ⟨hB, hNN, hX, hY, g1, g2, g3, hb, iN, iU, iP, iL, iO, iM, iV, iT, iA⟩ := hR
  exact ⟨hB, hNN, hX, hY, g1, g2, g3, hb, iN, iU, iP, iL, iO, mr_Mc iM (Nat.le_refl _) (fun x p hx a b c => ⟨a, b, fun d => hs (by rw [← d]; exact a)⟩), iV, mr_Tc iT (fun x hx a => Or.inr ⟨a, fun q => absurd q id, rfl⟩), iA⟩
end
end
section
/-! what the calls do to names, in the relation -/
theorem mr_rng {T N t m : Nat} (hN : N ≤ 8) (ht : t < T) (hm : m < N) : (t * 9 + (m + 1)) / 9 < T ∧ 1 ≤ (t * 9 + (m + 1)) % 9 ∧ (t * 9 + (m + 1)) % 9 ≤ N := by omega
section
variable {W W' : Nat → Prop} {e off T P N Q al p n t m x c D : Nat} {l : Nat → Nat} {tx dx st S O ar lx h mi mk mp ty dy qi qk qp ly : Nat → Int32} {v w i k z : Int32}
theorem mr_Rb (hR : mr_R W e off T P N Q al l tx dx st S O ar lx h mi mk mp ty dy qi qk qp ly) : T ≤ 4 ∧ 4 ≤ P ∧ P ≤ 16 ∧ N ≤ 8 ∧ Q ≤ 8 ∧ al ≤ P := by
  have := hR.1
  unfold mr_B at this
  omega
/-- a send right comes to a name: a new one, or one with the receive right alone -/
theorem mr_Rsnd (hR : mr_R W e off T P N Q al l tx dx st S O ar lx h mi mk mp ty dy qi qk qp ly) (hp : p < al) (hl : mr_lv st p) (ht : t < T) (hm : m < N) (hc : (ty (t * 9 + (m + 1)) = 0 ∧ v = 2) ∨ (ty (t * 9 + (m + 1)) = 1 ∧ dy (t * 9 + (m + 1)) = nI p ∧ v = 3)) : mr_R W e off T P N Q al l (upd tx (t * 8 + m) v) (upd dx (t * 8 + m) (nI p)) st S O ar lx h mi mk mp (upd ty (t * 9 + (m + 1)) v) (upd dy (t * 9 + (m + 1)) (nI p)) qi qk qp ly := by
  obtain ⟨b1, b2, b3, b4, b5, b6⟩ := mr_Rb hR
  have hI := hR.2.2.2.2.2.2.2.2
  rcases hc with ⟨h0, rfl⟩ | ⟨h1, hd, rfl⟩
  · exact mr_Rn hR (by omega) (Or.inr ⟨mr_rng b4 ht hm, p, hp, rfl, Or.inr (Or.inr (Or.inl ⟨rfl, hl⟩))⟩) (fun a => absurd a (by decide))
  · obtain ⟨p', hp', hd', hs⟩ := mr_Nr hI.1 (c := t * 9 + (m + 1)) (by omega) (Or.inl h1)
    have ee : p' = p := mr_inj (hd'.symm.trans hd) (by omega) (by omega)
    rw [ee] at hs
    exact mr_Rn hR (by omega) (Or.inr ⟨mr_rng b4 ht hm, p, hp, rfl, Or.inr (Or.inl ⟨rfl, hs⟩)⟩) (fun _ c' h36 hne hr hq => hne (hI.2.1 c' (t * 9 + (m + 1)) h36 (by omega) hr (Or.inl h1) (hq.trans hd.symm)))
/-- a send-once right comes to a new name -/
theorem mr_Rso (hR : mr_R W e off T P N Q al l tx dx st S O ar lx h mi mk mp ty dy qi qk qp ly) (hp : p < al) (hl : mr_lv st p) (ht : t < T) (hm : m < N) : mr_R W e off T P N Q al l (upd tx (t * 8 + m) 4) (upd dx (t * 8 + m) (nI p)) st S O ar lx h mi mk mp (upd ty (t * 9 + (m + 1)) 4) (upd dy (t * 9 + (m + 1)) (nI p)) qi qk qp ly := by
  obtain ⟨b1, b2, b3, b4, b5, b6⟩ := mr_Rb hR
  exact mr_Rn hR (by omega) (Or.inr ⟨mr_rng b4 ht hm, p, hp, rfl, Or.inr (Or.inr (Or.inr (Or.inl ⟨rfl, hl⟩)))⟩) (fun a => absurd a (by decide))
/-- the receive right that is under way comes to a name -/
theorem mr_Rrcv (hR : mr_R W e off T P N Q al l tx dx st S O ar lx h mi mk mp ty dy qi qk qp ly) (hw : ∀ y, y < 16 → (W y ↔ y = x)) (hx : x < al) (hs : st x = 2) (ht : t < T) (hm : m < N) (hc : v = 1 ∨ v = 3) : mr_R (fun _ => False) e off T P N Q al l (upd tx (t * 8 + m) v) (upd dx (t * 8 + m) (nI x)) (upd st x 1) S O ar lx h mi mk mp (upd ty (t * 9 + (m + 1)) v) (upd dy (t * 9 + (m + 1)) (nI x)) qi qk qp ly := by
  obtain ⟨b1, b2, b3, b4, b5, b6⟩ := mr_Rb hR
  have hI := hR.2.2.2.2.2.2.2.2
  have r1 := mr_R8 hR hx ((hw x (by omega)).mpr rfl)
  have r2 := mr_RW (W' := fun _ => False) r1 (fun y hy => ⟨fun q => q.2 ((hw y hy).mp q.1), fun q => absurd q id⟩)
  refine mr_Rn r2 (by omega) (Or.inr ⟨mr_rng b4 ht hm, x, hx, rfl, ?_⟩) (fun _ c' h36 _ hr hq => ?_)
  · rcases hc with rfl | rfl
    · exact Or.inl ⟨rfl, pk_us⟩
    · exact Or.inr (Or.inl ⟨rfl, pk_us⟩)
  · obtain ⟨p', hp', hd', hs'⟩ := mr_Nr hI.1 h36 hr
    have ee : p' = x := mr_inj (hd'.symm.trans hq) (by omega) (by omega)
    rw [ee, hs] at hs'
    exact absurd hs' (by decide)
/-- a name with both rights loses its send right -/
theorem mr_R31 (hR : mr_R W e off T P N Q al l tx dx st S O ar lx h mi mk mp ty dy qi qk qp ly) (ht : t < T) (hm : m < N) (h3 : ty (t * 9 + (m + 1)) = 3) : mr_R W e off T P N Q al l (upd tx (t * 8 + m) 1) dx st S O ar lx h mi mk mp (upd ty (t * 9 + (m + 1)) 1) dy qi qk qp ly := by
  obtain ⟨b1, b2, b3, b4, b5, b6⟩ := mr_Rb hR
  have hI := hR.2.2.2.2.2.2.2.2
  obtain ⟨p', hp', hd', hs⟩ := mr_Nr hI.1 (c := t * 9 + (m + 1)) (by omega) (Or.inr h3)
  exact mr_Rt hR (by omega) hd' (Or.inr ⟨mr_rng b4 ht hm, p', hp', rfl, Or.inl ⟨rfl, hs⟩⟩) (fun _ c' h36 hne hr hq => hne (hI.2.1 c' (t * 9 + (m + 1)) h36 (by omega) hr (Or.inr h3) (hq.trans hd'.symm)))
/-- the receive right leaves its name, for the queue of D -/
theorem mr_Rmv {r : Nat} (hR : mr_R (fun _ => False) e off T P N Q al l tx dx st S O ar lx h mi mk mp ty dy qi qk qp ly) (ht : t < T) (hm : m < N) (h3 : ty (t * 9 + (m + 1)) = 1 ∨ ty (t * 9 + (m + 1)) = 3) (hd : dy (t * 9 + (m + 1)) = nI c) (hc : c < al) (hs : st c = 1) (hD : mr_rc st h r D) (ho : ¬ mr_on h c r D) (hv : (ty (t * 9 + (m + 1)) = 1 ∧ v = 0 ∧ w = -1) ∨ (ty (t * 9 + (m + 1)) = 3 ∧ v = 2 ∧ w = nI c)) : mr_R (fun x => x = c) e off T P N Q al l (upd tx (t * 8 + m) v) (upd dx (t * 8 + m) w) (upd st c 2) S O ar lx (upd h c (nI D)) mi mk mp (upd ty (t * 9 + (m + 1)) v) (upd dy (t * 9 + (m + 1)) w) qi qk qp ly := by
  obtain ⟨b1, b2, b3, b4, b5, b6⟩ := mr_Rb hR
  have hI := hR.2.2.2.2.2.2.2.2
  have r1 : mr_R (fun _ => False) e off T P N Q al l (upd tx (t * 8 + m) v) (upd dx (t * 8 + m) w) st S O ar lx h mi mk mp (upd ty (t * 9 + (m + 1)) v) (upd dy (t * 9 + (m + 1)) w) qi qk qp ly := by
    rcases hv with ⟨_, rfl, rfl⟩ | ⟨_, rfl, rfl⟩
    · exact mr_Rf hR (by omega)
    · exact mr_Rn hR (by omega) (Or.inr ⟨mr_rng b4 ht hm, c, hc, rfl, Or.inr (Or.inr (Or.inl ⟨rfl, Or.inl hs⟩))⟩) (fun a => absurd a (by decide))
  have hv' : ¬ (v = 1 ∨ v = 3) := by
    rcases hv with ⟨_, rfl, _⟩ | ⟨_, rfl, _⟩
    · decide
    · decide
  have r2 := mr_R7 r1 hc (by rw [hs]; decide) (fun x h36 hq hr => by
    by_cases ee : x = t * 9 + (m + 1)
    · rw [ee, pk_us] at hr
      exact hv' hr
    · rw [pk_un ee] at hr hq
      exact ee (hI.2.1 x (t * 9 + (m + 1)) h36 (by omega) hr h3 (hq.trans hd.symm))) hD ho
  exact mr_RW r2 (fun x _ => ⟨fun q => q.elim (fun a => absurd a id) id, Or.inr⟩)
end
end
section
/-! the names of a dying port, cell by cell; the chain of holders, step by step -/
def mr_KS (y n : Nat) (ty dy a b : Nat → Int32) : Prop := (∀ c, c < n → a c = mr_kT y (ty c) (dy c) ∧ b c = mr_kD y (ty c) (dy c)) ∧ (∀ c, n ≤ c → a c = ty c ∧ b c = dy c)
section
variable {y n : Nat} {ty dy a b h : Nat → Int32} {c D q r : Nat}
theorem mr_KS0 : mr_KS y 0 ty dy ty dy := ⟨fun c hc => absurd hc (by omega), fun _ _ => ⟨rfl, rfl⟩⟩
theorem mr_KSs (hs : mr_KS y n ty dy a b) : mr_KS y (n + 1) ty dy (upd a n (mr_kT y (ty n) (dy n))) (upd b n (mr_kD y (ty n) (dy n))) := by
  refine ⟨fun c hc => ?_, fun c hc => ?_⟩
  · by_cases e : c = n
    · rw [e, pk_us, pk_us]
      exact ⟨rfl, rfl⟩
    · rw [pk_un e, pk_un e]
      exact hs.1 c (by omega)
  · rw [pk_un (by omega), pk_un (by omega)]
    exact hs.2 c (by omega)
theorem mr_KSe (hs : mr_KS y n ty dy a b) (h0 : ¬ dy n = nI y) : mr_KS y (n + 1) ty dy a b := by
  have r := mr_KSs hs
  have k1 : mr_kT y (ty n) (dy n) = ty n := if_neg h0
  have k2 : mr_kD y (ty n) (dy n) = dy n := if_neg (fun z => h0 z.1)
  rw [k1, k2, mr_ui (hs.2 n (Nat.le_refl _)).1, mr_ui (hs.2 n (Nat.le_refl _)).2] at r
  exact r
theorem mr_KSf (hs : mr_KS y n ty dy a b) (h0 : dy n = nI y) (h1 : ty n = 1) : mr_KS y (n + 1) ty dy (upd a n 0) (upd b n (-1)) := by
  have r := mr_KSs hs
  have k1 : mr_kT y (ty n) (dy n) = 0 := by
    unfold mr_kT
    rw [if_pos h0, if_pos h1]
  have k2 : mr_kD y (ty n) (dy n) = -1 := if_pos ⟨h0, h1⟩
  rw [k1, k2] at r
  exact r
theorem mr_KSd (hs : mr_KS y n ty dy a b) (h0 : dy n = nI y) (h1 : ¬ ty n = 1) : mr_KS y (n + 1) ty dy (upd a n 8) b := by
  have r := mr_KSs hs
  have k1 : mr_kT y (ty n) (dy n) = 8 := by
    unfold mr_kT
    rw [if_pos h0, if_neg h1]
  have k2 : mr_kD y (ty n) (dy n) = dy n := if_neg (fun z => h1 z.2)
  rw [k1, k2, mr_ui (hs.2 n (Nat.le_refl _)).2] at r
  exact r
theorem mr_KS8 (hs : mr_KS y n ty dy a b) (h0 : dy n = nI y) (h1 : ty n = 8) : mr_KS y (n + 1) ty dy a b := by
  have r := mr_KSd hs h0 (by rw [h1]; decide)
  rw [mr_ui ((hs.2 n (Nat.le_refl _)).1.trans h1)] at r
  exact r
theorem mr_onS : ∀ r, mr_on h c r c
  | 0 => rfl
  | _ + 1 => Or.inl rfl
theorem mr_onN (hne : D ≠ c) (hq : h D = nI q) (h16 : q < 16) : mr_on h c (r + 1) D ↔ mr_on h c r q := by
  constructor
  · intro z
    rcases z with z | ⟨q', a1, a2, a3⟩
    · exact absurd z hne
    · have ee : q' = q := mr_inj (a1.symm.trans hq) (by omega) (by omega)
      rw [← ee]
      exact a3
  · intro z
    exact Or.inr ⟨q, hq, h16, z⟩
end
/-! the least of the names -/
theorem mr_lst0 {pr : Nat → Prop} {N r : Nat} (hr : mr_lst pr N r) (hn : ∀ n, 1 ≤ n → n ≤ N → ¬ pr n) : r = 0 := by
  rcases hr with ⟨h0, _⟩ | ⟨h1, h2, h3, _⟩
  · exact h0
  · exact absurd h3 (hn r h1 h2)
theorem mr_lst1 {pr : Nat → Prop} {N r i : Nat} (hr : mr_lst pr N r) (hi : i + 1 ≤ N) (hn : ∀ n, 1 ≤ n → n ≤ i → ¬ pr n) (z : pr (i + 1)) : r = i + 1 := by
  rcases hr with ⟨_, h1⟩ | ⟨h1, h2, h3, h4⟩
  · exact absurd z (h1 (i + 1) (by omega) (by omega))
  · by_cases a : r ≤ i
    · exact absurd h3 (hn r h1 a)
    · by_cases b : i + 1 < r
      · exact absurd z (h4 (i + 1) (by omega) b)
      · omega
theorem mr_lst2 {pr : Nat → Prop} {i : Nat} (hn : ∀ n, 1 ≤ n → n ≤ i → ¬ pr n) (z : ¬ pr (i + 1)) : ∀ n, 1 ≤ n → n ≤ i + 1 → ¬ pr n := by
  intro n a b
  by_cases en : n = i + 1
  · rw [en]; exact z
  · exact hn n a (by omega)
theorem mr_lstL {pr : Nat → Prop} {N r : Nat} (hr : mr_lst pr N r) : r = 0 ∨ ∃ m, m < N ∧ r = m + 1 ∧ pr (m + 1) := by
  rcases hr with ⟨h0, _⟩ | ⟨h1, h2, h3, h4⟩
  · exact Or.inl h0
  · cases r with
    | zero => exact absurd h1 (by omega)
    | succ m => exact Or.inr ⟨m, by omega, rfl, h3⟩
end
section
/-! the component's small methods -/
theorem mr_xc {t m : Nat} : nI t * 8 + nI (m + 1) - 1 = nI (t * 8 + m) := by
  rw [show (8 : Int32) = nI 8 from rfl, pk_mul, nI_add, show t * 8 + (m + 1) = (t * 8 + m) + 1 from rfl, nI_pred]
theorem mr_yc {t n : Nat} : nI t * 9 + nI n = nI (t * 9 + n) := by
  rw [show (9 : Int32) = nI 9 from rfl, pk_mul, nI_add]
theorem mr_10 : ¬ (1 : Int32) = 0 := by decide
section
variable {W W' : Nat → Prop} {e off T P N Q al p n t m x c D : Nat} {l : Nat → Nat} {dc ic r0 r1 r2 r3 : Int32} {tx dx st S O ar lx h mi mk mp wl rc ty dy qi qk qp ly : Nat → Int32} {v w i k z : Int32}
theorem xm_cell {post : Int32 → Prop} (hp : post (nI (t * 8 + m))) : wpX_cellOf post (nI t) (nI (m + 1)) := by
  unfold wpX_cellOf
  rw [mr_xc]
  exact hp
theorem xm_task1 {post : Int32 → Prop} (ht : t < T) (hT : T ≤ 4) (hp : post 1) : wpX_isTask post (nI T, nI P, nI N, nI Q, dc, nI al, ic, tx, dx, st, S, O, ar, lx, h, mi, mk, mp, wl, rc) (nI t) := by
  have a1 : ¬ nI t < 0 := nI_pos (by omega)
  have a2 : ¬ nI T ≤ nI t := nI_ge ht (by omega)
  exact br_f a1 (br_f a2 hp)
theorem xm_task0 {post : Int32 → Prop} {y : Int32} (hy : y < 0 ∨ nI T ≤ y) (hp : post 0) : wpX_isTask post (nI T, nI P, nI N, nI Q, dc, nI al, ic, tx, dx, st, S, O, ar, lx, h, mi, mk, mp, wl, rc) y := by
  by_cases a1 : y < 0
  · exact br_t a1 hp
  · exact br_f a1 (br_t (hy.resolve_left a1) hp)
theorem xm_port1 {post : Int32 → Prop} (ht : p < P) (hT : P ≤ 16) (hp : post 1) : wpX_isPort post (nI T, nI P, nI N, nI Q, dc, nI al, ic, tx, dx, st, S, O, ar, lx, h, mi, mk, mp, wl, rc) (nI p) := by
  have a1 : ¬ nI p < 0 := nI_pos (by omega)
  have a2 : ¬ nI P ≤ nI p := nI_ge ht (by omega)
  exact br_f a1 (br_f a2 hp)
theorem xm_port0 {post : Int32 → Prop} {y : Int32} (hy : y < 0 ∨ nI P ≤ y) (hp : post 0) : wpX_isPort post (nI T, nI P, nI N, nI Q, dc, nI al, ic, tx, dx, st, S, O, ar, lx, h, mi, mk, mp, wl, rc) y := by
  by_cases a1 : y < 0
  · exact br_t a1 hp
  · exact br_f a1 (br_t (hy.resolve_left a1) hp)
theorem xm_name1 {post : Int32 → Prop} (hm : m < N) (hN : N ≤ 8) (hp : post 1) : wpX_isName post (nI T, nI P, nI N, nI Q, dc, nI al, ic, tx, dx, st, S, O, ar, lx, h, mi, mk, mp, wl, rc) (nI (m + 1)) := by
  have a1 : ¬ nI (m + 1) < 1 := nI_nlt (a := m + 1) (b := 1) (by omega) (by omega)
  have a2 : ¬ nI N < nI (m + 1) := nI_nlt (by omega) (by omega)
  exact br_f a1 (br_f a2 hp)
theorem xm_name0 {post : Int32 → Prop} {y : Int32} (hy : y < 1 ∨ nI N < y) (hp : post 0) : wpX_isName post (nI T, nI P, nI N, nI Q, dc, nI al, ic, tx, dx, st, S, O, ar, lx, h, mi, mk, mp, wl, rc) y := by
  by_cases a1 : y < 1
  · exact br_t a1 hp
  · exact br_f a1 (br_t (hy.resolve_left a1) hp)
theorem mr_tk (y : Int32) (hT : T ≤ 16) : (y < 0 ∨ nI T ≤ y) ∨ ∃ t, t < T ∧ y = nI t := by
  rcases pk_ix y (n := T) (by omega) with a | a | a
  · exact Or.inl (Or.inl a)
  · exact Or.inl (Or.inr a)
  · exact Or.inr a
theorem mr_nk (y : Int32) (hN : N ≤ 8) : (y < 1 ∨ nI N < y) ∨ ∃ m, m < N ∧ y = nI (m + 1) := by
  rcases pk_ix y (n := N + 1) (by omega) with a | a | ⟨j, hj, rfl⟩
  · refine Or.inl (Or.inl ?_)
    exact Int32.lt_trans a (by decide)
  · refine Or.inl (Or.inr ?_)
    exact Int32.lt_of_lt_of_le (nI_lt (Nat.lt_succ_self N) (by omega)) a
  · cases j with
    | zero => exact Or.inl (Or.inl (by decide))
    | succ j => exact Or.inr ⟨j, by omega, rfl⟩
/-- live: 1 where it is held or in transit -/
theorem xm_live1 {post : Int32 → Prop} (h16 : p < 16) (hl : mr_lv st p) (hp : post 1) : wpX_isLive post (nI T, nI P, nI N, nI Q, dc, nI al, ic, tx, dx, st, S, O, ar, lx, h, mi, mk, mp, wl, rc) (nI p) := by
  have v1 : vp_in (nI p) 16 := vp_in_nI h16 (by omega)
  have c1 : (nI p).toNatClampNeg = p := nI_clamp (by omega)
  by_cases e1 : st p = 1
  · exact ⟨v1, br_t (by rw [c1]; exact e1) hp⟩
  · exact ⟨v1, br_f (by rw [c1]; exact e1) ⟨v1, br_t (by rw [c1]; exact hl.resolve_left e1) hp⟩⟩
theorem xm_live0 {post : Int32 → Prop} (h16 : p < 16) (hl : ¬ mr_lv st p) (hp : post 0) : wpX_isLive post (nI T, nI P, nI N, nI Q, dc, nI al, ic, tx, dx, st, S, O, ar, lx, h, mi, mk, mp, wl, rc) (nI p) := by
  have v1 : vp_in (nI p) 16 := vp_in_nI h16 (by omega)
  have c1 : (nI p).toNatClampNeg = p := nI_clamp (by omega)
  exact ⟨v1, br_f (by rw [c1]; exact fun a => hl (Or.inl a)) ⟨v1, br_f (by rw [c1]; exact fun a => hl (Or.inr a)) hp⟩⟩
theorem xm_nt1 {post : Int32 → Prop} (ht : t < T) (hT : T ≤ 4) (hm : m < N) (hN : N ≤ 8) (hp : post (tx (t * 8 + m))) : wpX_nameType post (nI T, nI P, nI N, nI Q, dc, nI al, ic, tx, dx, st, S, O, ar, lx, h, mi, mk, mp, wl, rc) (nI t) (nI (m + 1)) := by
  unfold wpX_nameType
  refine xm_task1 ht hT (br_f mr_10 ?_)
  refine xm_name1 hm hN (br_f mr_10 ?_)
  refine xm_cell ⟨vp_in_nI (by omega) (by omega), ?_⟩
  rw [nI_clamp (by omega)]
  exact hp
theorem xm_nt0 {post : Int32 → Prop} {y : Int32} (ht : t < T) (hT : T ≤ 4) (hy : y < 1 ∨ nI N < y) (hp : post 0) : wpX_nameType post (nI T, nI P, nI N, nI Q, dc, nI al, ic, tx, dx, st, S, O, ar, lx, h, mi, mk, mp, wl, rc) (nI t) y := by
  unfold wpX_nameType
  refine xm_task1 ht hT (br_f mr_10 ?_)
  exact xm_name0 hy (br_t rfl hp)
theorem xm_ntT {post : Int32 → Prop} {y y2 : Int32} (hy : y < 0 ∨ nI T ≤ y) (hp : post 0) : wpX_nameType post (nI T, nI P, nI N, nI Q, dc, nI al, ic, tx, dx, st, S, O, ar, lx, h, mi, mk, mp, wl, rc) y y2 := by
  unfold wpX_nameType
  exact xm_task0 hy (br_t rfl hp)
theorem xm_np1 {post : Int32 → Prop} (ht : t < T) (hT : T ≤ 4) (hm : m < N) (hN : N ≤ 8) (hp : post (dx (t * 8 + m))) : wpX_namePort post (nI T, nI P, nI N, nI Q, dc, nI al, ic, tx, dx, st, S, O, ar, lx, h, mi, mk, mp, wl, rc) (nI t) (nI (m + 1)) := by
  unfold wpX_namePort
  refine xm_task1 ht hT (br_f mr_10 ?_)
  refine xm_name1 hm hN (br_f mr_10 ?_)
  refine xm_cell ⟨vp_in_nI (by omega) (by omega), ?_⟩
  rw [nI_clamp (by omega)]
  exact hp
theorem xm_np0 {post : Int32 → Prop} {y : Int32} (ht : t < T) (hT : T ≤ 4) (hy : y < 1 ∨ nI N < y) (hp : post (-1)) : wpX_namePort post (nI T, nI P, nI N, nI Q, dc, nI al, ic, tx, dx, st, S, O, ar, lx, h, mi, mk, mp, wl, rc) (nI t) y := by
  unfold wpX_namePort
  refine xm_task1 ht hT (br_f mr_10 ?_)
  exact xm_name0 hy (br_t rfl hp)
theorem xm_npT {post : Int32 → Prop} {y y2 : Int32} (hy : y < 0 ∨ nI T ≤ y) (hp : post (-1)) : wpX_namePort post (nI T, nI P, nI N, nI Q, dc, nI al, ic, tx, dx, st, S, O, ar, lx, h, mi, mk, mp, wl, rc) y y2 := by
  unfold wpX_namePort
  exact xm_task0 hy (br_t rfl hp)
theorem xm_rrT {post : Int32 → Prop} {y y2 : Int32} (hy : y < 0 ∨ nI T ≤ y) (hp : post (-1)) : wpX_receiveRightRefusal post (nI T, nI P, nI N, nI Q, dc, nI al, ic, tx, dx, st, S, O, ar, lx, h, mi, mk, mp, wl, rc) y y2 := by
  unfold wpX_receiveRightRefusal
  exact xm_task0 hy (br_t rfl hp)
theorem xm_rrN {post : Int32 → Prop} {y : Int32} (ht : t < T) (hT : T ≤ 4) (hy : y < 1 ∨ nI N < y) (hp : post (-2)) : wpX_receiveRightRefusal post (nI T, nI P, nI N, nI Q, dc, nI al, ic, tx, dx, st, S, O, ar, lx, h, mi, mk, mp, wl, rc) (nI t) y := by
  unfold wpX_receiveRightRefusal
  refine xm_task1 ht hT (br_f mr_10 ?_)
  exact xm_nt0 ht hT hy (br_t (by decide) hp)
theorem xm_rrF {post : Int32 → Prop} (ht : t < T) (hT : T ≤ 4) (hm : m < N) (hN : N ≤ 8) (h0 : tx (t * 8 + m) &&& 1 = 0) (hp : post (-2)) : wpX_receiveRightRefusal post (nI T, nI P, nI N, nI Q, dc, nI al, ic, tx, dx, st, S, O, ar, lx, h, mi, mk, mp, wl, rc) (nI t) (nI (m + 1)) := by
  unfold wpX_receiveRightRefusal
  refine xm_task1 ht hT (br_f mr_10 ?_)
  exact xm_nt1 ht hT hm hN (br_t h0 hp)
theorem xm_rr0 {post : Int32 → Prop} (ht : t < T) (hT : T ≤ 4) (hm : m < N) (hN : N ≤ 8) (h0 : ¬ tx (t * 8 + m) &&& 1 = 0) (hp : post 0) : wpX_receiveRightRefusal post (nI T, nI P, nI N, nI Q, dc, nI al, ic, tx, dx, st, S, O, ar, lx, h, mi, mk, mp, wl, rc) (nI t) (nI (m + 1)) := by
  unfold wpX_receiveRightRefusal
  refine xm_task1 ht hT (br_f mr_10 ?_)
  exact xm_nt1 ht hT hm hN (br_f h0 hp)
end
end
section
/-! the component's searches -/
/-- the name has the receive or a send right for port p -/
def mr_rs (ty dy : Nat → Int32) (t p n : Nat) : Prop := (ty (t * 9 + n) = 1 ∨ ty (t * 9 + n) = 2 ∨ ty (t * 9 + n) = 3) ∧ dy (t * 9 + n) = nI p
section
variable {W W' : Nat → Prop} {e off T P N Q al p n t m x c D : Nat} {l : Nat → Nat} {dc ic r0 r1 r2 r3 : Int32} {tx dx st S O ar lx h mi mk mp wl rc ty dy qi qk qp ly : Nat → Int32} {v w i k z : Int32}
theorem xm_lfL {post : Int32 → Prop} {r : Nat} (ht : t < 4) (hN : N ≤ 8) (hNN : mr_NN tx dx ty dy) (hr : mr_lst (fun n => ty (t * 9 + n) = 0) N r) (hp : post (nI r)) : ∀ d i, i + d = N → (∀ n, 1 ≤ n → n ≤ i → ¬ ty (t * 9 + n) = 0) → wX_leastFreeName_2 post (nI t) (nI T) (nI P) (nI N) (nI Q) dc (nI al) ic tx dx st S O ar lx h mi mk mp wl rc (d + 1) (nI (i + 1)) := by
  intro d
  induction d with
  | zero =>
    intro i hi hn
    have r0 : r = 0 := mr_lst0 hr (fun n a b => hn n a (by omega))
    rw [r0] at hp
    exact br_t (nI_lt (by omega) (by omega)) hp
  | succ d ih =>
    intro i hi hn
    have c1 : (nI (t * 8 + i)).toNatClampNeg = t * 8 + i := nI_clamp (by omega)
    have e1 := (hNN t i ht (by omega)).1
    refine br_f (nI_nlt (by omega) (by omega)) (xm_cell ⟨vp_in_nI (by omega) (by omega), ?_⟩)
    by_cases z : ty (t * 9 + (i + 1)) = 0
    · rw [mr_lst1 hr (by omega) hn z] at hp
      exact br_t (by rw [c1, e1]; exact z) hp
    · exact br_f (by rw [c1, e1]; exact z) (nm_r (nI_1 (i + 1)) (ih (i + 1) (by omega) (mr_lst2 (pr := fun n => ty (t * 9 + n) = 0) hn z)))
theorem xm_lf {post : Int32 → Prop} {r : Nat} (ht : t < 4) (hN : N ≤ 8) (hNN : mr_NN tx dx ty dy) (hr : mr_lst (fun n => ty (t * 9 + n) = 0) N r) (hp : post (nI r)) : wpX_leastFreeName post (nI T, nI P, nI N, nI Q, dc, nI al, ic, tx, dx, st, S, O, ar, lx, h, mi, mk, mp, wl, rc) (nI t) :=
  ⟨N + 1, xm_lfL ht hN hNN hr hp N 0 (by omega) (fun n a b => absurd a (by omega))⟩
theorem xm_nwL {post : Int32 → Prop} {r : Nat} (ht : t < 4) (hN : N ≤ 8) (hNN : mr_NN tx dx ty dy) (hk : ∀ c, c < 36 → mr_tok (ty c)) (hr : mr_lst (mr_rs ty dy t p) N r) (hp : post (nI r)) : ∀ d i, i + d = N → (∀ n, 1 ≤ n → n ≤ i → ¬ mr_rs ty dy t p n) → wX_nameWithReceiveOrSend_2 post (nI t) (nI p) (nI T) (nI P) (nI N) (nI Q) dc (nI al) ic tx dx st S O ar lx h mi mk mp wl rc (d + 1) (nI (i + 1)) := by
  intro d
  induction d with
  | zero =>
    intro i hi hn
    have r0 : r = 0 := mr_lst0 hr (fun n a b => hn n a (by omega))
    rw [r0] at hp
    exact br_t (nI_lt (by omega) (by omega)) hp
  | succ d ih =>
    intro i hi hn
    have c1 : (nI (t * 8 + i)).toNatClampNeg = t * 8 + i := nI_clamp (by omega)
    have e1 := hNN t i ht (by omega)
    have tk := hk (t * 9 + (i + 1)) (by omega)
    have vi : vp_in (nI (t * 8 + i)) 32 := vp_in_nI (by omega) (by omega)
    have nx : ¬ mr_rs ty dy t p (i + 1) → ∀ y, y = nI (i + 1) + 1 → wX_nameWithReceiveOrSend_2 post (nI t) (nI p) (nI T) (nI P) (nI N) (nI Q) dc (nI al) ic tx dx st S O ar lx h mi mk mp wl rc (d + 1) y := fun z => nm_r (nI_1 (i + 1)) (ih (i + 1) (by omega) (mr_lst2 hn z))
    refine br_f (nI_nlt (by omega) (by omega)) (xm_cell ⟨vi, ?_⟩)
    by_cases z1 : dy (t * 9 + (i + 1)) = nI p
    · refine br_t (by rw [c1, e1.2]; exact z1) ⟨vi, ?_⟩
      by_cases z2 : ty (t * 9 + (i + 1)) &&& 3 = 0
      · exact br_t (by rw [c1, e1.1]; exact z2) (nx (fun q => (mr_a3 tk).mp z2 q.1))
      · have q : mr_rs ty dy t p (i + 1) := ⟨Classical.byContradiction (fun a => z2 ((mr_a3 tk).mpr a)), z1⟩
        rw [mr_lst1 hr (by omega) hn q] at hp
        exact br_f (by rw [c1, e1.1]; exact z2) hp
    · exact br_f (by rw [c1, e1.2]; exact z1) (nx (fun q => z1 q.2))
theorem xm_nw {post : Int32 → Prop} {r : Nat} (ht : t < 4) (hN : N ≤ 8) (hNN : mr_NN tx dx ty dy) (hk : ∀ c, c < 36 → mr_tok (ty c)) (hr : mr_lst (mr_rs ty dy t p) N r) (hp : post (nI r)) : wpX_nameWithReceiveOrSend post (nI T, nI P, nI N, nI Q, dc, nI al, ic, tx, dx, st, S, O, ar, lx, h, mi, mk, mp, wl, rc) (nI t) (nI p) :=
  ⟨N + 1, xm_nwL ht hN hNN hk hr hp N 0 (by omega) (fun n a b => absurd a (by omega))⟩
/-- the name of a copyout that isn't of a send-once right: r1, or r2 if r1 is 0 -/
theorem xm_con {post : Int32 → Prop} {r1 r2 : Nat} (ht : t < 4) (hN : N ≤ 8) (hNN : mr_NN tx dx ty dy) (hk : ∀ c, c < 36 → mr_tok (ty c)) (hr : mr_lst (mr_rs ty dy t p) N r1) (hr2 : mr_lst (fun n => ty (t * 9 + n) = 0) N r2) (h2 : ¬ k = 2) (hp : post (nI (if r1 = 0 then r2 else r1))) : wpX_copyoutName post (nI T, nI P, nI N, nI Q, dc, nI al, ic, tx, dx, st, S, O, ar, lx, h, mi, mk, mp, wl, rc) (nI t) k (nI p) := by
  unfold wpX_copyoutName
  refine br_f h2 (xm_nw ht hN hNN hk hr ?_)
  by_cases z : r1 = 0
  · rw [if_pos z] at hp
    refine br_t (by rw [z]; exact nI_0) ?_
    unfold wX_copyoutName_21
    exact xm_lf ht hN hNN hr2 hp
  · rw [if_neg z] at hp
    have l1 : r1 ≤ N := by
      rcases hr with a | a
      · omega
      · omega
    exact br_f (nI_ne0 (by omega) (by omega)) hp
theorem xm_cso {post : Int32 → Prop} {r2 : Nat} {y : Int32} (ht : t < 4) (hN : N ≤ 8) (hNN : mr_NN tx dx ty dy) (hr2 : mr_lst (fun n => ty (t * 9 + n) = 0) N r2) (hp : post (nI r2)) : wpX_copyoutName post (nI T, nI P, nI N, nI Q, dc, nI al, ic, tx, dx, st, S, O, ar, lx, h, mi, mk, mp, wl, rc) (nI t) 2 y := by
  unfold wpX_copyoutName
  refine br_t rfl ?_
  unfold wX_copyoutName_21
  exact xm_lf ht hN hNN hr2 hp
/-! a notice in the queue -/
theorem mr_9 {p : Nat} : nI p * 9 = nI (p * 9) := by
  rw [show (9 : Int32) = nI 9 from rfl, pk_mul]
theorem xm_hnL {post : Int32 → Prop} (hp : p < 16) (h9 : n ≤ 9) (h1 : (∃ i, i < n ∧ mk (p * 9 + i) = 4) → post 1) (h0 : (∀ i, i < n → ¬ mk (p * 9 + i) = 4) → post 0) : ∀ d i, i + d = n → (∀ j, j < i → ¬ mk (p * 9 + j) = 4) → wX_holdsNotice_15 post (nI (p * 9)) (nI n) (nI T) (nI P) (nI N) (nI Q) dc (nI al) ic tx dx st S O ar lx h mi mk mp wl rc (d + 1) (nI i) := by
  intro d
  induction d with
  | zero =>
    intro i hi hn
    exact br_t (nI_le (by omega) (by omega)) (h0 (fun j hj => hn j (by omega)))
  | succ d ih =>
    intro i hi hn
    have e1 : nI (p * 9) + nI i = nI (p * 9 + i) := nI_add _ _
    have v1 : vp_in (nI (p * 9) + nI i) 144 := by
      rw [e1]
      exact vp_in_nI (by omega) (by omega)
    have c1 : (nI (p * 9) + nI i).toNatClampNeg = p * 9 + i := by
      rw [e1]
      exact nI_clamp (by omega)
    refine br_f (nI_ge (by omega) (by omega)) ⟨v1, ?_⟩
    by_cases z : mk (p * 9 + i) = 4
    · exact br_t (by rw [c1]; exact z) (h1 ⟨i, by omega, z⟩)
    · refine br_f (by rw [c1]; exact z) (nm_r (nI_1 i) (ih (i + 1) (by omega) (fun j hj => ?_)))
      by_cases q : j = i
      · rw [q]; exact z
      · exact hn j (by omega)
theorem xm_hn {post : Int32 → Prop} (hp : p < 16) (h9 : n ≤ 9) (hl : lx p = nI n) (h1 : (∃ i, i < n ∧ mk (p * 9 + i) = 4) → post 1) (h0 : (∀ i, i < n → ¬ mk (p * 9 + i) = 4) → post 0) : wpX_holdsNotice post (nI T, nI P, nI N, nI Q, dc, nI al, ic, tx, dx, st, S, O, ar, lx, h, mi, mk, mp, wl, rc) (nI p) := by
  unfold wpX_holdsNotice
  refine nm_r mr_9 ⟨vp_in_nI hp (by omega), nm_r (e' := nI n) (by rw [nI_clamp (by omega)]; exact hl) ⟨n + 1, ?_⟩⟩
  exact xm_hnL hp h9 h1 h0 n 0 (by omega) (fun j hj => absurd hj (by omega))
theorem xm_oc {post : Int32 → Prop} (hp : p < 16) (h9 : n ≤ 9) (hl : lx p = nI n) (ho : n ≤ mr_oc mk (p * 9) n + 1) (hq : post (nI (mr_oc mk (p * 9) n))) : wpX_ordinaryCount post (nI T, nI P, nI N, nI Q, dc, nI al, ic, tx, dx, st, S, O, ar, lx, h, mi, mk, mp, wl, rc) (nI p) := by
  have v1 : vp_in (nI p) 16 := vp_in_nI hp (by omega)
  have c1 : (nI p).toNatClampNeg = p := nI_clamp (by omega)
  unfold wpX_ordinaryCount
  refine xm_hn hp h9 hl (fun a => br_f mr_10 ⟨v1, ?_⟩) (fun a => br_t rfl ⟨v1, ?_⟩)
  · obtain ⟨i, hi, h4⟩ := a
    have o := mr_ocx hi h4
    rw [c1, hl, show n = (n - 1) + 1 from by omega, nI_pred, show n - 1 = mr_oc mk (p * 9) n from by omega]
    exact hq
  · rw [c1, hl]
    rw [mr_ocn a] at hq
    exact hq
/-! the cycles -/
theorem xm_cyL {post : Int32 → Prop} (hc : c < 16) : ∀ r D, mr_rc st h r D → ∀ j, j + r ≤ 15 → (mr_on h c r D → post 1) → (¬ mr_on h c r D → post 0) → ∀ n, r < n → wX_makesCycle_5 post (nI c) (nI T) (nI P) (nI N) (nI Q) dc (nI al) ic tx dx st S O ar lx h mi mk mp wl rc n (nI D) (nI j) := by
  intro r
  induction r with
  | zero =>
    intro D hD j hj h1 h0 n hn
    cases n with
    | zero => exact absurd hn (by omega)
    | succ n =>
      have D16 := mr_rc16 hD
      have c1 : (nI D).toNatClampNeg = D := nI_clamp (by omega)
      refine br_f (nI_ge (b := 16) (by omega) (by omega)) ?_
      by_cases z : D = c
      · exact br_t (by rw [z]) (h1 z)
      · exact br_f (fun q => z (mr_inj q (by omega) (by omega))) ⟨vp_in_nI D16 (by omega), br_f (by rw [c1]; exact hD.2) (h0 z)⟩
  | succ r ih =>
    intro D hD j hj h1 h0 n hn
    cases n with
    | zero => exact absurd hn (by omega)
    | succ n =>
      have D16 := mr_rc16 hD
      have c1 : (nI D).toNatClampNeg = D := nI_clamp (by omega)
      obtain ⟨a1, a2, q, a3, a4⟩ := hD
      refine br_f (nI_ge (b := 16) (by omega) (by omega)) ?_
      by_cases z : D = c
      · exact br_t (by rw [z]) (h1 (Or.inl z))
      · have on := mr_onN (c := c) (r := r) z a3 (mr_rc16 a4)
        refine br_f (fun q => z (mr_inj q (by omega) (by omega))) ⟨vp_in_nI D16 (by omega), br_t (by rw [c1]; exact a2) ⟨vp_in_nI D16 (by omega), nm_r (e' := nI q) (by rw [c1]; exact a3) (nm_r (nI_1 j) ?_)⟩⟩
        exact ih q a4 (j + 1) (by omega) (fun g => h1 (on.mpr g)) (fun g => h0 (fun f => g (on.mp f))) n (by omega)
theorem xm_cy {post : Int32 → Prop} {r : Nat} (hc : c < 16) (hD : mr_rc st h r D) (h1 : mr_on h c r D → post 1) (h0 : ¬ mr_on h c r D → post 0) : wpX_makesCycle post (nI T, nI P, nI N, nI Q, dc, nI al, ic, tx, dx, st, S, O, ar, lx, h, mi, mk, mp, wl, rc) (nI c) (nI D) :=
  ⟨r + 1, xm_cyL hc r D hD 0 (by have := mr_rcb hD; omega) h1 h0 (r + 1) (by omega)⟩
end
end
section
/-! the reference's small methods -/
theorem mr_yv {t n : Nat} (ht : t < 4) (hn : n < 9) : vp_in (nI t * 9 + nI n) 36 := by
  rw [mr_yc]
  exact vp_in_nI (by omega) (by omega)
theorem mr_ycl {t n : Nat} (ht : t < 4) (hn : n < 9) : (nI t * 9 + nI n).toNatClampNeg = t * 9 + n := by
  rw [mr_yc]
  exact nI_clamp (by omega)
section
variable {W W' : Nat → Prop} {e off T P N Q al p n t m x c D : Nat} {l : Nat → Nat} {dc ic r0 r1 r2 r3 : Int32} {tx dx st S O ar lx h mi mk mp wl rc ty dy qi qk qp ly : Nat → Int32} {v w i k z : Int32}
theorem ym_task1 {post : Int32 → Prop} (ht : t < T) (hT : T ≤ 4) (hp : post 1) : wpY_taskOk post (nI T, nI P, nI N, nI Q, nI al, ic, r0, r1, r2, r3, ty, dy, st, S, O, ar, qi, qk, qp, ly, wl) (nI t) := by
  have a1 : ¬ nI t < 0 := nI_pos (by omega)
  have a2 : ¬ nI T ≤ nI t := nI_ge ht (by omega)
  exact br_f a1 (br_f a2 hp)
theorem ym_task0 {post : Int32 → Prop} {y : Int32} (hy : y < 0 ∨ nI T ≤ y) (hp : post 0) : wpY_taskOk post (nI T, nI P, nI N, nI Q, nI al, ic, r0, r1, r2, r3, ty, dy, st, S, O, ar, qi, qk, qp, ly, wl) y := by
  by_cases a1 : y < 0
  · exact br_t a1 hp
  · exact br_f a1 (br_t (hy.resolve_left a1) hp)
theorem ym_name1 {post : Int32 → Prop} (hm : m < N) (hN : N ≤ 8) (hp : post 1) : wpY_nameOk post (nI T, nI P, nI N, nI Q, nI al, ic, r0, r1, r2, r3, ty, dy, st, S, O, ar, qi, qk, qp, ly, wl) (nI (m + 1)) := by
  have a1 : ¬ nI (m + 1) < 1 := nI_nlt (a := m + 1) (b := 1) (by omega) (by omega)
  have a2 : ¬ nI N < nI (m + 1) := nI_nlt (by omega) (by omega)
  exact br_f a1 (br_f a2 hp)
theorem ym_name0 {post : Int32 → Prop} {y : Int32} (hy : y < 1 ∨ nI N < y) (hp : post 0) : wpY_nameOk post (nI T, nI P, nI N, nI Q, nI al, ic, r0, r1, r2, r3, ty, dy, st, S, O, ar, qi, qk, qp, ly, wl) y := by
  by_cases a1 : y < 1
  · exact br_t a1 hp
  · exact br_f a1 (br_t (hy.resolve_left a1) hp)
theorem ym_live1 {post : Int32 → Prop} (h16 : p < P) (hP : P ≤ 16) (hl : mr_lv st p) (hp : post 1) : wpY_live post (nI T, nI P, nI N, nI Q, nI al, ic, r0, r1, r2, r3, ty, dy, st, S, O, ar, qi, qk, qp, ly, wl) (nI p) := by
  have v1 : vp_in (nI p) 16 := vp_in_nI (by omega) (by omega)
  have c1 : (nI p).toNatClampNeg = p := nI_clamp (by omega)
  have a1 : ¬ nI p < 0 := nI_pos (by omega)
  have a2 : ¬ nI P ≤ nI p := nI_ge h16 (by omega)
  refine br_f a1 (br_f a2 ?_)
  by_cases e1 : st p = 1
  · exact ⟨v1, br_t (by rw [c1]; exact e1) hp⟩
  · exact ⟨v1, br_f (by rw [c1]; exact e1) ⟨v1, br_t (by rw [c1]; exact hl.resolve_left e1) hp⟩⟩
theorem ym_live0 {post : Int32 → Prop} (h16 : p < 16) (hP : P ≤ 16) (hl : ¬ mr_lv st p) (hp : post 0) : wpY_live post (nI T, nI P, nI N, nI Q, nI al, ic, r0, r1, r2, r3, ty, dy, st, S, O, ar, qi, qk, qp, ly, wl) (nI p) := by
  have v1 : vp_in (nI p) 16 := vp_in_nI (by omega) (by omega)
  have c1 : (nI p).toNatClampNeg = p := nI_clamp (by omega)
  have a1 : ¬ nI p < 0 := nI_pos (by omega)
  refine br_f a1 ?_
  by_cases a2 : nI P ≤ nI p
  · exact br_t a2 hp
  · exact br_f a2 ⟨v1, br_f (by rw [c1]; exact fun a => hl (Or.inl a)) ⟨v1, br_f (by rw [c1]; exact fun a => hl (Or.inr a)) hp⟩⟩
theorem ym_liveN {post : Int32 → Prop} {y : Int32} (hy : y < 0 ∨ nI P ≤ y) (hp : post 0) : wpY_live post (nI T, nI P, nI N, nI Q, nI al, ic, r0, r1, r2, r3, ty, dy, st, S, O, ar, qi, qk, qp, ly, wl) y := by
  by_cases a1 : y < 0
  · exact br_t a1 hp
  · exact br_f a1 (br_t (hy.resolve_left a1) hp)
theorem ym_free {post : SY → Prop} (hc : c < 36) (hp : post (nI T, nI P, nI N, nI Q, nI al, ic, r0, r1, r2, r3, upd ty c 0, upd dy c (-1), st, S, O, ar, qi, qk, qp, ly, wl)) : wpY_free post (nI T, nI P, nI N, nI Q, nI al, ic, r0, r1, r2, r3, ty, dy, st, S, O, ar, qi, qk, qp, ly, wl) (nI c) := by
  have v1 : vp_in (nI c) 36 := vp_in_nI hc (by omega)
  have c1 : (nI c).toNatClampNeg = c := nI_clamp (by omega)
  refine ⟨v1, nm_r (e' := upd ty c 0) (by rw [c1]) ⟨v1, nm_r (e' := upd dy c (-1)) (by rw [c1]) hp⟩⟩
end
end
section
/-! the reference's searches -/
/-- the name has a send right for port p -/
def mr_fs (ty dy : Nat → Int32) (t p n : Nat) : Prop := (ty (t * 9 + n) = 2 ∨ ty (t * 9 + n) = 3) ∧ dy (t * 9 + n) = nI p
section
variable {W W' : Nat → Prop} {e off T P N Q al p n t m x c D : Nat} {l : Nat → Nat} {dc ic r0 r1 r2 r3 : Int32} {tx dx st S O ar lx h mi mk mp wl rc ty dy qi qk qp ly : Nat → Int32} {v w i k z : Int32}
theorem ym_lfL {post : Int32 → Prop} {r : Nat} (ht : t < 4) (hN : N ≤ 8) (hr : mr_lst (fun n => ty (t * 9 + n) = 0) N r) (hp : post (nI r)) : ∀ d i, i + d = N → (∀ n, 1 ≤ n → n ≤ i → ¬ ty (t * 9 + n) = 0) → wY_leastFree_2 post (nI t) (nI T) (nI P) (nI N) (nI Q) (nI al) ic r0 r1 r2 r3 ty dy st S O ar qi qk qp ly wl (d + 1) (nI (i + 1)) := by
  intro d
  induction d with
  | zero =>
    intro i hi hn
    have r0 : r = 0 := mr_lst0 hr (fun n a b => hn n a (by omega))
    rw [r0] at hp
    exact br_t (nI_lt (by omega) (by omega)) hp
  | succ d ih =>
    intro i hi hn
    have c1 := mr_ycl (t := t) (n := i + 1) ht (by omega)
    refine br_f (nI_nlt (by omega) (by omega)) ⟨mr_yv ht (by omega), ?_⟩
    by_cases z : ty (t * 9 + (i + 1)) = 0
    · rw [mr_lst1 hr (by omega) hn z] at hp
      exact br_t (by rw [c1]; exact z) hp
    · exact br_f (by rw [c1]; exact z) (nm_r (nI_1 (i + 1)) (ih (i + 1) (by omega) (mr_lst2 (pr := fun n => ty (t * 9 + n) = 0) hn z)))
theorem ym_lf {post : Int32 → Prop} {r : Nat} (ht : t < 4) (hN : N ≤ 8) (hr : mr_lst (fun n => ty (t * 9 + n) = 0) N r) (hp : post (nI r)) : wpY_leastFree post (nI T, nI P, nI N, nI Q, nI al, ic, r0, r1, r2, r3, ty, dy, st, S, O, ar, qi, qk, qp, ly, wl) (nI t) :=
  ⟨N + 1, ym_lfL ht hN hr hp N 0 (by omega) (fun n a b => absurd a (by omega))⟩
theorem ym_rsL {post : Int32 → Prop} {r : Nat} (ht : t < 4) (hN : N ≤ 8) (hr : mr_lst (mr_rs ty dy t p) N r) (hp : post (nI r)) : ∀ d i, i + d = N → (∀ n, 1 ≤ n → n ≤ i → ¬ mr_rs ty dy t p n) → wY_findRecvOrSend_2 post (nI t) (nI p) (nI T) (nI P) (nI N) (nI Q) (nI al) ic r0 r1 r2 r3 ty dy st S O ar qi qk qp ly wl (d + 1) (nI (i + 1)) := by
  intro d
  induction d with
  | zero =>
    intro i hi hn
    have r0 : r = 0 := mr_lst0 hr (fun n a b => hn n a (by omega))
    rw [r0] at hp
    exact br_t (nI_lt (by omega) (by omega)) hp
  | succ d ih =>
    intro i hi hn
    have c1 := mr_ycl (t := t) (n := i + 1) ht (by omega)
    have vi : vp_in (nI t * 9 + nI (i + 1)) 36 := mr_yv ht (by omega)
    have nx : ¬ mr_rs ty dy t p (i + 1) → ∀ y, y = nI (i + 1) + 1 → wY_findRecvOrSend_2 post (nI t) (nI p) (nI T) (nI P) (nI N) (nI Q) (nI al) ic r0 r1 r2 r3 ty dy st S O ar qi qk qp ly wl (d + 1) y := fun z => nm_r (nI_1 (i + 1)) (ih (i + 1) (by omega) (mr_lst2 hn z))
    have fd : (ty (t * 9 + (i + 1)) = 1 ∨ ty (t * 9 + (i + 1)) = 2 ∨ ty (t * 9 + (i + 1)) = 3) → wY_findRecvOrSend_41 post (wY_findRecvOrSend_2 post (nI t) (nI p) (nI T) (nI P) (nI N) (nI Q) (nI al) ic r0 r1 r2 r3 ty dy st S O ar qi qk qp ly wl (d + 1)) (nI t) (nI p) (nI (i + 1)) (nI T) (nI P) (nI N) (nI Q) (nI al) ic r0 r1 r2 r3 ty dy st S O ar qi qk qp ly wl := by
      intro q
      refine ⟨vi, ?_⟩
      by_cases z1 : dy (t * 9 + (i + 1)) = nI p
      · have q' : mr_rs ty dy t p (i + 1) := ⟨q, z1⟩
        rw [mr_lst1 hr (by omega) hn q'] at hp
        exact br_t (by rw [c1]; exact z1) hp
      · exact br_f (by rw [c1]; exact z1) (nx (fun q => z1 q.2))
    refine br_f (nI_nlt (by omega) (by omega)) ⟨vi, nm_r (e' := ty (t * 9 + (i + 1))) (by rw [c1]) ?_⟩
    by_cases z1 : ty (t * 9 + (i + 1)) = 1
    · exact br_t z1 (fd (Or.inl z1))
    · by_cases z2 : ty (t * 9 + (i + 1)) = 2
      · exact br_f z1 (br_t z2 (fd (Or.inr (Or.inl z2))))
      · by_cases z3 : ty (t * 9 + (i + 1)) = 3
        · exact br_f z1 (br_f z2 (br_t z3 (fd (Or.inr (Or.inr z3)))))
        · exact br_f z1 (br_f z2 (br_f z3 (nx (fun q => q.1.elim z1 (fun a => a.elim z2 z3)))))
theorem ym_rs {post : Int32 → Prop} {r : Nat} (ht : t < 4) (hN : N ≤ 8) (hr : mr_lst (mr_rs ty dy t p) N r) (hp : post (nI r)) : wpY_findRecvOrSend post (nI T, nI P, nI N, nI Q, nI al, ic, r0, r1, r2, r3, ty, dy, st, S, O, ar, qi, qk, qp, ly, wl) (nI t) (nI p) :=
  ⟨N + 1, ym_rsL ht hN hr hp N 0 (by omega) (fun n a b => absurd a (by omega))⟩
theorem ym_fsL {post : Int32 → Prop} {r : Nat} (ht : t < 4) (hN : N ≤ 8) (hk : ∀ c, c < 36 → mr_tok (ty c)) (hr : mr_lst (mr_fs ty dy t p) N r) (hp : post (nI r)) : ∀ d i, i + d = N → (∀ n, 1 ≤ n → n ≤ i → ¬ mr_fs ty dy t p n) → wY_findSend_2 post (nI t) (nI p) (nI T) (nI P) (nI N) (nI Q) (nI al) ic r0 r1 r2 r3 ty dy st S O ar qi qk qp ly wl (d + 1) (nI (i + 1)) := by
  intro d
  induction d with
  | zero =>
    intro i hi hn
    have r0 : r = 0 := mr_lst0 hr (fun n a b => hn n a (by omega))
    rw [r0] at hp
    exact br_t (nI_lt (by omega) (by omega)) hp
  | succ d ih =>
    intro i hi hn
    have c1 := mr_ycl (t := t) (n := i + 1) ht (by omega)
    have vi : vp_in (nI t * 9 + nI (i + 1)) 36 := mr_yv ht (by omega)
    have tk := hk (t * 9 + (i + 1)) (by omega)
    have nx : ¬ mr_fs ty dy t p (i + 1) → ∀ y, y = nI (i + 1) + 1 → wY_findSend_2 post (nI t) (nI p) (nI T) (nI P) (nI N) (nI Q) (nI al) ic r0 r1 r2 r3 ty dy st S O ar qi qk qp ly wl (d + 1) y := fun z => nm_r (nI_1 (i + 1)) (ih (i + 1) (by omega) (mr_lst2 hn z))
    refine br_f (nI_nlt (by omega) (by omega)) ⟨vi, ?_⟩
    by_cases z2 : ty (t * 9 + (i + 1)) &&& 2 = 0
    · exact br_t (by rw [c1]; exact z2) (nx (fun q => (mr_a2 tk).mp z2 q.1))
    · refine br_f (by rw [c1]; exact z2) ⟨vi, ?_⟩
      by_cases z1 : dy (t * 9 + (i + 1)) = nI p
      · have q : mr_fs ty dy t p (i + 1) := ⟨Classical.byContradiction (fun a => z2 ((mr_a2 tk).mpr a)), z1⟩
        rw [mr_lst1 hr (by omega) hn q] at hp
        exact br_t (by rw [c1]; exact z1) hp
      · exact br_f (by rw [c1]; exact z1) (nx (fun q => z1 q.2))
theorem ym_fs {post : Int32 → Prop} {r : Nat} (ht : t < 4) (hN : N ≤ 8) (hk : ∀ c, c < 36 → mr_tok (ty c)) (hr : mr_lst (mr_fs ty dy t p) N r) (hp : post (nI r)) : wpY_findSend post (nI T, nI P, nI N, nI Q, nI al, ic, r0, r1, r2, r3, ty, dy, st, S, O, ar, qi, qk, qp, ly, wl) (nI t) (nI p) :=
  ⟨N + 1, ym_fsL ht hN hk hr hp N 0 (by omega) (fun n a b => absurd a (by omega))⟩
/-! counts and notices -/
theorem mr_qv {p i : Nat} (hp : p < 16) (hi : i < 9) : vp_in (nI p * 9 + nI i) 144 := by
  rw [mr_yc]
  exact vp_in_nI (by omega) (by omega)
theorem mr_qc {p i : Nat} (hp : p < 16) (hi : i < 9) : (nI p * 9 + nI i).toNatClampNeg = p * 9 + i := by
  rw [mr_yc]
  exact nI_clamp (by omega)
theorem ym_ocL {post : Int32 → Prop} (hp : p < 16) (h9 : n ≤ 9) (hl : ly p = nI n) (hq : post (nI (mr_oc qk (p * 9) n))) : ∀ d i, i + d = n → wY_ordinaryCount_4 post (nI p) (nI T) (nI P) (nI N) (nI Q) (nI al) ic r0 r1 r2 r3 ty dy st S O ar qi qk qp ly wl (d + 1) (nI (mr_oc qk (p * 9) i)) (nI i) := by
  intro d
  induction d with
  | zero =>
    intro i hi
    have e : i = n := by omega
    rw [e]
    exact ⟨vp_in_nI hp (by omega), br_t (by rw [nI_clamp (by omega), hl]; exact nI_le (Nat.le_refl _) (by omega)) hq⟩
  | succ d ih =>
    intro i hi
    have r := ih (i + 1) (by omega)
    have c1 := mr_qc (p := p) (i := i) hp (by omega)
    refine ⟨vp_in_nI hp (by omega), br_f (by rw [nI_clamp (by omega), hl]; exact nI_ge (by omega) (by omega)) (br_f (nI_ge (b := 9) (by omega) (by omega)) ⟨mr_qv hp (by omega), ?_⟩)⟩
    rw [mr_ocs] at r
    by_cases z : qk (p * 9 + i) = 4
    · rw [if_pos z] at r
      exact br_t (by rw [c1]; exact z) (nm_r (nI_1 i) r)
    · rw [if_neg z] at r
      exact br_f (by rw [c1]; exact z) (nm_r (nI_1 _) (nm_r (nI_1 i) r))
theorem ym_oc {post : Int32 → Prop} (hp : p < 16) (h9 : n ≤ 9) (hl : ly p = nI n) (hq : post (nI (mr_oc qk (p * 9) n))) : wpY_ordinaryCount post (nI T, nI P, nI N, nI Q, nI al, ic, r0, r1, r2, r3, ty, dy, st, S, O, ar, qi, qk, qp, ly, wl) (nI p) :=
  ⟨n + 1, ym_ocL hp h9 hl hq n 0 (by omega)⟩
theorem ym_hnL {post : Int32 → Prop} (hp : p < 16) (h9 : n ≤ 9) (hl : ly p = nI n) (h1 : (∃ i, i < n ∧ qk (p * 9 + i) = 4) → post 1) (h0 : (∀ i, i < n → ¬ qk (p * 9 + i) = 4) → post 0) : ∀ d i, i + d = n → (∀ j, j < i → ¬ qk (p * 9 + j) = 4) → wY_hasNotice_2 post (nI p) (nI T) (nI P) (nI N) (nI Q) (nI al) ic r0 r1 r2 r3 ty dy st S O ar qi qk qp ly wl (d + 1) (nI i) := by
  intro d
  induction d with
  | zero =>
    intro i hi hn
    have e : i = n := by omega
    rw [e]
    exact ⟨vp_in_nI hp (by omega), br_t (by rw [nI_clamp (by omega), hl]; exact nI_le (Nat.le_refl _) (by omega)) (h0 (fun j hj => hn j (by omega)))⟩
  | succ d ih =>
    intro i hi hn
    have c1 := mr_qc (p := p) (i := i) hp (by omega)
    refine ⟨vp_in_nI hp (by omega), br_f (by rw [nI_clamp (by omega), hl]; exact nI_ge (by omega) (by omega)) (br_f (nI_ge (b := 9) (by omega) (by omega)) ⟨mr_qv hp (by omega), ?_⟩)⟩
    by_cases z : qk (p * 9 + i) = 4
    · exact br_t (by rw [c1]; exact z) (h1 ⟨i, by omega, z⟩)
    · refine br_f (by rw [c1]; exact z) (nm_r (nI_1 i) (ih (i + 1) (by omega) (fun j hj => ?_)))
      by_cases q : j = i
      · rw [q]; exact z
      · exact hn j (by omega)
theorem ym_hn {post : Int32 → Prop} (hp : p < 16) (h9 : n ≤ 9) (hl : ly p = nI n) (h1 : (∃ i, i < n ∧ qk (p * 9 + i) = 4) → post 1) (h0 : (∀ i, i < n → ¬ qk (p * 9 + i) = 4) → post 0) : wpY_hasNotice post (nI T, nI P, nI N, nI Q, nI al, ic, r0, r1, r2, r3, ty, dy, st, S, O, ar, qi, qk, qp, ly, wl) (nI p) :=
  ⟨n + 1, ym_hnL hp h9 hl h1 h0 n 0 (by omega) (fun j hj => absurd hj (by omega))⟩
end
end
section
/-! append, on both sides -/
section
variable {W W' : Nat → Prop} {e off T P N Q al p n t m x c D : Nat} {l : Nat → Nat} {dc ic r0 r1 r2 r3 : Int32} {tx dx st S O ar lx h mi mk mp wl rc ty dy qi qk qp ly : Nat → Int32} {v w i k z : Int32}
theorem xm_append {post : SX → Prop} (hp : p < 16) (hn : n ≤ 8) (hl : lx p = nI n) (hq : post (nI T, nI P, nI N, nI Q, dc, nI al, ic + 1, tx, dx, st, S, O, ar, upd lx p (nI (n + 1)), h, upd mi (p * 9 + n) (ic + 1), upd mk (p * 9 + n) k, upd mp (p * 9 + n) z, wl, rc)) : wpX_append post (nI T, nI P, nI N, nI Q, dc, nI al, ic, tx, dx, st, S, O, ar, lx, h, mi, mk, mp, wl, rc) (nI p) k z := by
  have v1 : vp_in (nI p) 16 := vp_in_nI hp (by omega)
  have c1 : (nI p).toNatClampNeg = p := nI_clamp (by omega)
  have v2 : vp_in (nI (p * 9 + n)) 144 := vp_in_nI (by omega) (by omega)
  have c2 : (nI (p * 9 + n)).toNatClampNeg = p * 9 + n := nI_clamp (by omega)
  refine nm_e ⟨v1, nm_r (e' := nI (p * 9 + n)) (by rw [c1, hl]; exact mr_yc) ⟨v2, nm_r (e' := upd mi (p * 9 + n) (ic + 1)) (by rw [c2]) ⟨v2, nm_r (e' := upd mk (p * 9 + n) k) (by rw [c2]) ⟨v2, nm_r (e' := upd mp (p * 9 + n) z) (by rw [c2]) ⟨v1, ⟨v1, nm_r (e' := upd lx p (nI (n + 1))) (by rw [c1, hl, nI_1]) hq⟩⟩⟩⟩⟩⟩
theorem ym_append {post : Int32 → SY → Prop} (hp : p < P) (hP : P ≤ 16) (hn : n ≤ 8) (hl : ly p = nI n) (hq : post (ic + 1) (nI T, nI P, nI N, nI Q, nI al, ic + 1, r0, r1, r2, r3, ty, dy, st, S, O, ar, upd qi (p * 9 + n) (ic + 1), upd qk (p * 9 + n) k, upd qp (p * 9 + n) z, upd ly p (nI (n + 1)), wl)) : wpY_append post (nI T, nI P, nI N, nI Q, nI al, ic, r0, r1, r2, r3, ty, dy, st, S, O, ar, qi, qk, qp, ly, wl) (nI p) k z := by
  have v1 : vp_in (nI p) 16 := vp_in_nI (by omega) (by omega)
  have c1 : (nI p).toNatClampNeg = p := nI_clamp (by omega)
  have v2 : vp_in (nI (p * 9 + n)) 144 := vp_in_nI (by omega) (by omega)
  have c2 : (nI (p * 9 + n)).toNatClampNeg = p * 9 + n := nI_clamp (by omega)
  have a1 : ¬ nI p < 0 := nI_pos (by omega)
  have a2 : ¬ nI P ≤ nI p := nI_ge hp (by omega)
  have a3 : ly (nI p).toNatClampNeg < 9 := by rw [c1, hl]; exact nI_lt (b := 9) (by omega) (by omega)
  refine br_f a1 (br_f a2 ⟨v1, br_t a3 (nm_e ⟨v1, nm_r (e' := nI (p * 9 + n)) (by rw [c1, hl]; exact mr_yc) ⟨v2, nm_r (e' := upd qi (p * 9 + n) (ic + 1)) (by rw [c2]) ⟨v2, nm_r (e' := upd qk (p * 9 + n) k) (by rw [c2]) ⟨v2, nm_r (e' := upd qp (p * 9 + n) z) (by rw [c2]) ⟨v1, ⟨v1, nm_r (e' := upd ly p (nI (n + 1))) (by rw [c1, hl, nI_1]) hq⟩⟩⟩⟩⟩⟩)⟩)
theorem xm_free {post : SX → Prop} (hc : c < 32) (hp : post (nI T, nI P, nI N, nI Q, dc, nI al, ic, upd tx c 0, upd dx c (-1), st, S, O, ar, lx, h, mi, mk, mp, wl, rc)) : wpX_freeName post (nI T, nI P, nI N, nI Q, dc, nI al, ic, tx, dx, st, S, O, ar, lx, h, mi, mk, mp, wl, rc) (nI c) := by
  have v1 : vp_in (nI c) 32 := vp_in_nI hc (by omega)
  have c1 : (nI c).toNatClampNeg = c := nI_clamp (by omega)
  exact ⟨v1, nm_r (e' := upd tx c 0) (by rw [c1]) ⟨v1, nm_r (e' := upd dx c (-1)) (by rw [c1]) hp⟩⟩
theorem xm_lose0 {post : SX → Prop} (hc : c < 32) (h0 : tx c &&& (v ^^^ (-1)) = 0) (hp : post (nI T, nI P, nI N, nI Q, dc, nI al, ic, upd tx c 0, upd dx c (-1), st, S, O, ar, lx, h, mi, mk, mp, wl, rc)) : wpX_loseRight post (nI T, nI P, nI N, nI Q, dc, nI al, ic, tx, dx, st, S, O, ar, lx, h, mi, mk, mp, wl, rc) (nI c) v := by
  have v1 : vp_in (nI c) 32 := vp_in_nI hc (by omega)
  have c1 : (nI c).toNatClampNeg = c := nI_clamp (by omega)
  refine ⟨v1, v1, nm_r (e' := upd tx c 0) (by rw [c1, h0]) ⟨v1, br_t (by rw [c1]; exact pk_us) ?_⟩⟩
  refine xm_free hc ?_
  rw [mr_uu]
  exact hp
theorem xm_lose1 {post : SX → Prop} (hc : c < 32) (h0 : tx c &&& (v ^^^ (-1)) = w) (hw : ¬ w = 0) (hp : post (nI T, nI P, nI N, nI Q, dc, nI al, ic, upd tx c w, dx, st, S, O, ar, lx, h, mi, mk, mp, wl, rc)) : wpX_loseRight post (nI T, nI P, nI N, nI Q, dc, nI al, ic, tx, dx, st, S, O, ar, lx, h, mi, mk, mp, wl, rc) (nI c) v := by
  have v1 : vp_in (nI c) 32 := vp_in_nI hc (by omega)
  have c1 : (nI c).toNatClampNeg = c := nI_clamp (by omega)
  exact ⟨v1, v1, nm_r (e' := upd tx c w) (by rw [c1, h0]) ⟨v1, br_f (by rw [c1, pk_us]; exact hw) hp⟩⟩
theorem xm_so1 {post : SX → Prop} (h16 : p < 16) (hl : mr_lv st p) (hp : post (nI T, nI P, nI N, nI Q, dc, nI al, ic, tx, dx, st, S, upd O p (O p - 1), ar, lx, h, mi, mk, mp, wl, rc)) : wpX_dropSendOnce post (nI T, nI P, nI N, nI Q, dc, nI al, ic, tx, dx, st, S, O, ar, lx, h, mi, mk, mp, wl, rc) (nI p) := by
  have v1 : vp_in (nI p) 16 := vp_in_nI h16 (by omega)
  have c1 : (nI p).toNatClampNeg = p := nI_clamp (by omega)
  unfold wpX_dropSendOnce
  exact xm_live1 h16 hl (br_f mr_10 ⟨v1, v1, nm_r (e' := upd O p (O p - 1)) (by rw [c1]) hp⟩)
theorem xm_so0 {post : SX → Prop} (h16 : p < 16) (hl : ¬ mr_lv st p) (hp : post (nI T, nI P, nI N, nI Q, dc, nI al, ic, tx, dx, st, S, O, ar, lx, h, mi, mk, mp, wl, rc)) : wpX_dropSendOnce post (nI T, nI P, nI N, nI Q, dc, nI al, ic, tx, dx, st, S, O, ar, lx, h, mi, mk, mp, wl, rc) (nI p) := by
  unfold wpX_dropSendOnce
  exact xm_live0 h16 hl (br_t rfl hp)
theorem ym_so1 {post : SY → Prop} (h16 : p < P) (hP : P ≤ 16) (hl : mr_lv st p) (hp : post (nI T, nI P, nI N, nI Q, nI al, ic, r0, r1, r2, r3, ty, dy, st, S, upd O p (O p - 1), ar, qi, qk, qp, ly, wl)) : wpY_decO post (nI T, nI P, nI N, nI Q, nI al, ic, r0, r1, r2, r3, ty, dy, st, S, O, ar, qi, qk, qp, ly, wl) (nI p) := by
  have v1 : vp_in (nI p) 16 := vp_in_nI (by omega) (by omega)
  have c1 : (nI p).toNatClampNeg = p := nI_clamp (by omega)
  unfold wpY_decO
  exact ym_live1 h16 hP hl (br_f mr_10 ⟨v1, v1, nm_r (e' := upd O p (O p - 1)) (by rw [c1]) hp⟩)
theorem ym_so0 {post : SY → Prop} (h16 : p < 16) (hP : P ≤ 16) (hl : ¬ mr_lv st p) (hp : post (nI T, nI P, nI N, nI Q, nI al, ic, r0, r1, r2, r3, ty, dy, st, S, O, ar, qi, qk, qp, ly, wl)) : wpY_decO post (nI T, nI P, nI N, nI Q, nI al, ic, r0, r1, r2, r3, ty, dy, st, S, O, ar, qi, qk, qp, ly, wl) (nI p) := by
  unfold wpY_decO
  exact ym_live0 h16 hP hl (br_t rfl hp)
/-! dropSend and decS -/
theorem mr_nb0 : vp_nar .boolean 0 = 0 := by decide
theorem mr_nb1 : vp_nar .boolean 1 = 1 := by decide
theorem xm_ds0 {post : SX → Prop} (h16 : p < 16) (hl : ¬ mr_lv st p) (hp : post (nI T, nI P, nI N, nI Q, dc, nI al, ic, tx, dx, st, S, O, ar, lx, h, mi, mk, mp, wl, rc)) : wpX_dropSend post (nI T, nI P, nI N, nI Q, dc, nI al, ic, tx, dx, st, S, O, ar, lx, h, mi, mk, mp, wl, rc) (nI p) := by
  unfold wpX_dropSend
  exact xm_live0 h16 hl (br_t rfl hp)
theorem xm_ds1 {post : SX → Prop} (h16 : p < 16) (hl : mr_lv st p) (hs : ¬ S p - 1 = 0 ∨ ar p = 0) (hp : post (nI T, nI P, nI N, nI Q, dc, nI al, ic, tx, dx, st, upd S p (S p - 1), O, ar, lx, h, mi, mk, mp, wl, rc)) : wpX_dropSend post (nI T, nI P, nI N, nI Q, dc, nI al, ic, tx, dx, st, S, O, ar, lx, h, mi, mk, mp, wl, rc) (nI p) := by
  have v1 : vp_in (nI p) 16 := vp_in_nI h16 (by omega)
  have c1 : (nI p).toNatClampNeg = p := nI_clamp (by omega)
  unfold wpX_dropSend
  refine xm_live1 h16 hl (br_f mr_10 ⟨v1, v1, nm_r (e' := upd S p (S p - 1)) (by rw [c1]) ⟨v1, ?_⟩⟩)
  by_cases z : S p - 1 = 0
  · exact br_t (by rw [c1, pk_us]; exact z) ⟨v1, br_t (by rw [c1]; exact hs.resolve_left (fun a => a z)) hp⟩
  · exact br_f (by rw [c1, pk_us]; exact z) hp
theorem xm_ds2 {post : SX → Prop} (h16 : p < 16) (hl : mr_lv st p) (hs : S p - 1 = 0) (ha : ar p = 1) (hn : n ≤ 8) (hx : lx p = nI n) (hp : post (nI T, nI P, nI N, nI Q, dc, nI al, ic + 1, tx, dx, st, upd S p (S p - 1), O, upd ar p 0, upd lx p (nI (n + 1)), h, upd mi (p * 9 + n) (ic + 1), upd mk (p * 9 + n) 4, upd mp (p * 9 + n) (-1), wl, rc)) : wpX_dropSend post (nI T, nI P, nI N, nI Q, dc, nI al, ic, tx, dx, st, S, O, ar, lx, h, mi, mk, mp, wl, rc) (nI p) := by
  have v1 : vp_in (nI p) 16 := vp_in_nI h16 (by omega)
  have c1 : (nI p).toNatClampNeg = p := nI_clamp (by omega)
  unfold wpX_dropSend
  refine xm_live1 h16 hl (br_f mr_10 ⟨v1, v1, nm_r (e' := upd S p (S p - 1)) (by rw [c1]) ⟨v1, br_t (by rw [c1, pk_us]; exact hs) ⟨v1, br_f (by rw [c1, ha]; decide) ⟨v1, nm_r (e' := upd ar p 0) (by rw [c1, mr_nb0]) ?_⟩⟩⟩⟩)
  exact xm_append h16 hn hx hp
theorem ym_ds0 {post : SY → Prop} (h16 : p < 16) (hP : P ≤ 16) (hl : ¬ mr_lv st p) (hp : post (nI T, nI P, nI N, nI Q, nI al, ic, r0, r1, r2, r3, ty, dy, st, S, O, ar, qi, qk, qp, ly, wl)) : wpY_decS post (nI T, nI P, nI N, nI Q, nI al, ic, r0, r1, r2, r3, ty, dy, st, S, O, ar, qi, qk, qp, ly, wl) (nI p) := by
  unfold wpY_decS
  exact ym_live0 h16 hP hl (br_t rfl hp)
theorem ym_ds1 {post : SY → Prop} (h16 : p < P) (hP : P ≤ 16) (hl : mr_lv st p) (hs : ¬ S p - 1 = 0 ∨ ar p = 0) (hp : post (nI T, nI P, nI N, nI Q, nI al, ic, r0, r1, r2, r3, ty, dy, st, upd S p (S p - 1), O, ar, qi, qk, qp, ly, wl)) : wpY_decS post (nI T, nI P, nI N, nI Q, nI al, ic, r0, r1, r2, r3, ty, dy, st, S, O, ar, qi, qk, qp, ly, wl) (nI p) := by
  have v1 : vp_in (nI p) 16 := vp_in_nI (by omega) (by omega)
  have c1 : (nI p).toNatClampNeg = p := nI_clamp (by omega)
  unfold wpY_decS
  refine ym_live1 h16 hP hl (br_f mr_10 ⟨v1, nm_r (e' := S p) (by rw [c1]) ⟨v1, nm_r (e' := upd S p (S p - 1)) (by rw [c1]) ?_⟩⟩)
  by_cases z : S p - 1 = 0
  · exact br_t ((mr_s1 _).mp z) ⟨v1, br_t (by rw [c1]; exact hs.resolve_left (fun a => a z)) hp⟩
  · exact br_f (fun a => z ((mr_s1 _).mpr a)) hp
theorem ym_ds2 {post : SY → Prop} (h16 : p < P) (hP : P ≤ 16) (hl : mr_lv st p) (hs : S p - 1 = 0) (ha : ar p = 1) (hn : n ≤ 8) (hx : ly p = nI n) (hp : post (nI T, nI P, nI N, nI Q, nI al, ic + 1, r0, r1, r2, r3, ty, dy, st, upd S p (S p - 1), O, upd ar p 0, upd qi (p * 9 + n) (ic + 1), upd qk (p * 9 + n) 4, upd qp (p * 9 + n) (-1), upd ly p (nI (n + 1)), wl)) : wpY_decS post (nI T, nI P, nI N, nI Q, nI al, ic, r0, r1, r2, r3, ty, dy, st, S, O, ar, qi, qk, qp, ly, wl) (nI p) := by
  have v1 : vp_in (nI p) 16 := vp_in_nI (by omega) (by omega)
  have c1 : (nI p).toNatClampNeg = p := nI_clamp (by omega)
  unfold wpY_decS
  refine ym_live1 h16 hP hl (br_f mr_10 ⟨v1, nm_r (e' := S p) (by rw [c1]) ⟨v1, nm_r (e' := upd S p (S p - 1)) (by rw [c1]) (br_t ((mr_s1 _).mp hs) ⟨v1, br_f (by rw [c1, ha]; decide) ⟨v1, nm_r (e' := upd ar p 0) (by rw [c1, mr_nb0]) ?_⟩⟩)⟩⟩)
  exact ym_append h16 hP hn hx hp
/-- a send right is given up, on both sides -/
theorem mr_dec (hR : mr_R W e off T P N Q al l tx dx st S O ar lx h mi mk mp ty dy qi qk qp ly) (hp : p < al) (he : e < 16 → ¬ mr_lv st e) (ic : Int32) : ∃ (S' ar' : Nat → Int32) (ic' : Int32) (l' : Nat → Nat) (lx' mi' mk' mp' qi' qk' qp' ly' : Nat → Int32), mr_R W e off T P N Q al l' tx dx st S' O ar' lx' h mi' mk' mp' ty dy qi' qk' qp' ly' ∧ (e < 16 → l' e = l e) ∧ (∀ (dc : Int32) (wl rc : Nat → Int32) (post : SX → Prop), post (nI T, nI P, nI N, nI Q, dc, nI al, ic', tx, dx, st, S', O, ar', lx', h, mi', mk', mp', wl, rc) → wpX_dropSend post (nI T, nI P, nI N, nI Q, dc, nI al, ic, tx, dx, st, S, O, ar, lx, h, mi, mk, mp, wl, rc) (nI p)) ∧ (∀ (r0 r1 r2 r3 : Int32) (wl : Nat → Int32) (post : SY → Prop), post (nI T, nI P, nI N, nI Q, nI al, ic', r0, r1, r2, r3, ty, dy, st, S', O, ar', qi', qk', qp', ly', wl) → wpY_decS post (nI T, nI P, nI N, nI Q, nI al, ic, r0, r1, r2, r3, ty, dy, st, S, O, ar, qi, qk, qp, ly, wl) (nI p)) := by
  obtain ⟨b1, b2, b3, b4, b5, b6⟩ := mr_Rb hR
  by_cases hl : mr_lv st p
  · have ne : p ≠ e := fun q => he (by omega) (by rw [← q]; exact hl)
    by_cases hs : S p - 1 = 0 ∧ ar p = 1
    · obtain ⟨l8, r⟩ := mr_Rnote (i := ic + 1) (v := S p - 1) hR (p := p) (by omega) ne hl hs.2
      have hx : lx p = nI (l p) := by
        have := hR.2.2.1 p (by omega)
        rw [if_neg ne] at this
        exact this
      have hy : ly p = nI (l p) := hR.2.2.2.1 p (by omega)
      exact ⟨_, _, _, _, _, _, _, _, _, _, _, _, r, fun _ => mr_uln (fun q => ne q.symm), fun dc wl rc post hq => xm_ds2 (by omega) hl hs.1 hs.2 l8 hx hq, fun r0 r1 r2 r3 wl post hq => ym_ds2 (by omega) b3 hl hs.1 hs.2 l8 hy hq⟩
    · have hs' : ¬ S p - 1 = 0 ∨ ar p = 0 := by
        by_cases z : S p - 1 = 0
        · exact Or.inr ((hR.2.2.2.2.2.2.2.2.2.2.1 p (by omega)).2.2.resolve_right (fun a => hs ⟨z, a⟩))
        · exact Or.inl z
      exact ⟨_, _, _, _, _, _, _, _, _, _, _, _, mr_RS (v := S p - 1) hR hl, fun _ => rfl, fun dc wl rc post hq => xm_ds1 (by omega) hl hs' hq, fun r0 r1 r2 r3 wl post hq => ym_ds1 (by omega) b3 hl hs' hq⟩
  · exact ⟨_, _, _, _, _, _, _, _, _, _, _, _, hR, fun _ => rfl, fun dc wl rc post hq => xm_ds0 (by omega) hl hq, fun r0 r1 r2 r3 wl post hq => ym_ds0 (by omega) b3 hl hq⟩
end
end
section
/-! the head of a queue is removed; holders and cycles in the reference -/
section
variable {W W' : Nat → Prop} {e off T P N Q al p n t m x c D : Nat} {l : Nat → Nat} {dc ic r0 r1 r2 r3 : Int32} {tx dx st S O ar lx h mi mk mp wl rc ty dy qi qk qp ly : Nat → Int32} {v w i k z : Int32}
theorem mr_p1v {j b : Nat} (hj : j + 1 < b) (hb : b < 1000) : vp_in (nI j + 1) b := by
  rw [nI_1]
  exact vp_in_nI hj (by omega)
theorem mr_p1c {j : Nat} (hj : j < 1000) : (nI j + 1).toNatClampNeg = j + 1 := by
  rw [nI_1]
  exact nI_clamp (by omega)
theorem xm_reL {post : SX → Prop} (hp : p < 16) (h8 : n ≤ 8) (hq : ∀ mi' mk' mp', mr_Sh p n mi mi' → mr_Sh p n mk mk' → mr_Sh p n mp mp' → post (nI T, nI P, nI N, nI Q, dc, nI al, ic, tx, dx, st, S, O, ar, lx, h, mi', mk', mp', wl, rc)) : ∀ d i, i + d = n → ∀ mi' mk' mp', mr_Sh p i mi mi' → mr_Sh p i mk mk' → mr_Sh p i mp mp' → wX_removeHead_24 post (nI (p * 9)) (nI n) (nI T) (nI P) (nI N) (nI Q) dc (nI al) ic (d + 1) (nI i) tx dx st S O ar lx h mi' mk' mp' wl rc := by
  intro d
  induction d with
  | zero =>
    intro i hi mi' mk' mp' s1 s2 s3
    have e : i = n := by omega
    rw [e] at s1 s2 s3 ⊢
    exact br_t (nI_le (Nat.le_refl _) (by omega)) (hq mi' mk' mp' s1 s2 s3)
  | succ d ih =>
    intro i hi mi' mk' mp' s1 s2 s3
    have v0 : vp_in (nI (p * 9 + i)) 144 := vp_in_nI (by omega) (by omega)
    have c0 : (nI (p * 9 + i)).toNatClampNeg = p * 9 + i := nI_clamp (by omega)
    have v1 : vp_in (nI (p * 9 + i) + 1) 144 := mr_p1v (by omega) (by omega)
    have c1 : (nI (p * 9 + i) + 1).toNatClampNeg = p * 9 + (i + 1) := mr_p1c (by omega)
    exact br_f (nI_ge (by omega) (by omega)) (nm_r (nI_add (p * 9) i) ⟨v1, v0, nm_r (e' := upd mi' (p * 9 + i) (mi' (p * 9 + (i + 1)))) (by rw [c0, c1]) ⟨v1, v0, nm_r (e' := upd mk' (p * 9 + i) (mk' (p * 9 + (i + 1)))) (by rw [c0, c1]) ⟨v1, v0, nm_r (e' := upd mp' (p * 9 + i) (mp' (p * 9 + (i + 1)))) (by rw [c0, c1]) (nm_r (nI_1 i) (ih (i + 1) (by omega) _ _ _ (mr_ShS s1) (mr_ShS s2) (mr_ShS s3)))⟩⟩⟩)
theorem xm_re {post : SX → Prop} (hp : p < 16) (h8 : n ≤ 8) (hl : lx p = nI (n + 1)) (hq : ∀ mi' mk' mp', mr_Sh p n mi mi' → mr_Sh p n mk mk' → mr_Sh p n mp mp' → post (nI T, nI P, nI N, nI Q, dc, nI al, ic, tx, dx, st, S, O, ar, upd lx p (nI n), h, mi', mk', mp', wl, rc)) : wpX_removeHead post (nI T, nI P, nI N, nI Q, dc, nI al, ic, tx, dx, st, S, O, ar, lx, h, mi, mk, mp, wl, rc) (nI p) := by
  have v1 : vp_in (nI p) 16 := vp_in_nI hp (by omega)
  have c1 : (nI p).toNatClampNeg = p := nI_clamp (by omega)
  unfold wpX_removeHead
  refine nm_r mr_9 ⟨v1, nm_r (e' := nI n) (by rw [c1, hl, nI_pred]) ⟨v1, nm_r (e' := upd lx p (nI n)) (by rw [c1]) ⟨n + 1, ?_⟩⟩⟩
  exact xm_reL hp h8 hq n 0 (by omega) mi mk mp mr_Sh0 mr_Sh0 mr_Sh0
theorem ym_reL {post : SY → Prop} (hp : p < 16) (h8 : n ≤ 8) (hl : ly p = nI (n + 1)) (hq : ∀ qi' qk' qp', mr_Sh p n qi qi' → mr_Sh p n qk qk' → mr_Sh p n qp qp' → post (nI T, nI P, nI N, nI Q, nI al, ic, r0, r1, r2, r3, ty, dy, st, S, O, ar, qi', qk', qp', upd ly p (nI n), wl)) : ∀ d i, i + d = 8 → ∀ s, (s = i ∧ i ≤ n) ∨ (s = n ∧ n ≤ i) → ∀ qi' qk' qp', mr_Sh p s qi qi' → mr_Sh p s qk qk' → mr_Sh p s qp qp' → wY_removeHead_29 post (nI p) (nI (p * 9)) (nI T) (nI P) (nI N) (nI Q) (nI al) ic r0 r1 r2 r3 (d + 1) (nI i) ty dy st S O ar qi' qk' qp' ly wl := by
  have vp : vp_in (nI p) 16 := vp_in_nI hp (by omega)
  have cp : (nI p).toNatClampNeg = p := nI_clamp (by omega)
  intro d
  induction d with
  | zero =>
    intro i hi s hs qi' qk' qp' s1 s2 s3
    have e : s = n := by omega
    rw [e] at s1 s2 s3
    exact br_t (nI_le (a := 8) (by omega) (by omega)) ⟨vp, vp, nm_r (e' := upd ly p (nI n)) (by rw [cp, hl, nI_pred]) (hq qi' qk' qp' s1 s2 s3)⟩
  | succ d ih =>
    intro i hi s hs qi' qk' qp' s1 s2 s3
    refine br_f (nI_ge (b := 8) (by omega) (by omega)) ⟨vp, ?_⟩
    by_cases z : n ≤ i
    · have c : ly (nI p).toNatClampNeg ≤ nI i + 1 := by
        rw [cp, hl, nI_1]
        exact nI_le (by omega) (by omega)
      exact br_t c (nm_r (nI_1 i) (ih (i + 1) (by omega) s (by omega) qi' qk' qp' s1 s2 s3))
    · have c : ¬ ly (nI p).toNatClampNeg ≤ nI i + 1 := by
        rw [cp, hl, nI_1]
        exact nI_ge (by omega) (by omega)
      have e : s = i := by omega
      rw [e] at s1 s2 s3
      have ea : nI (p * 9) + nI i = nI (p * 9 + i) := nI_add _ _
      have v0 : vp_in (nI (p * 9) + nI i) 144 := by
        rw [ea]
        exact vp_in_nI (by omega) (by omega)
      have c0 : (nI (p * 9) + nI i).toNatClampNeg = p * 9 + i := by
        rw [ea]
        exact nI_clamp (by omega)
      have v1 : vp_in (nI (p * 9) + nI i + 1) 144 := by
        rw [ea]
        exact mr_p1v (by omega) (by omega)
      have c1 : (nI (p * 9) + nI i + 1).toNatClampNeg = p * 9 + (i + 1) := by
        rw [ea]
        exact mr_p1c (by omega)
      exact br_f c ⟨v1, v0, nm_r (e' := upd qi' (p * 9 + i) (qi' (p * 9 + (i + 1)))) (by rw [c0, c1]) ⟨v1, v0, nm_r (e' := upd qk' (p * 9 + i) (qk' (p * 9 + (i + 1)))) (by rw [c0, c1]) ⟨v1, v0, nm_r (e' := upd qp' (p * 9 + i) (qp' (p * 9 + (i + 1)))) (by rw [c0, c1]) (nm_r (nI_1 i) (ih (i + 1) (by omega) (i + 1) (by omega) _ _ _ (mr_ShS s1) (mr_ShS s2) (mr_ShS s3)))⟩⟩⟩
theorem ym_re {post : SY → Prop} (hp : p < P) (hP : P ≤ 16) (h8 : n ≤ 8) (hl : ly p = nI (n + 1)) (hq : ∀ qi' qk' qp', mr_Sh p n qi qi' → mr_Sh p n qk qk' → mr_Sh p n qp qp' → post (nI T, nI P, nI N, nI Q, nI al, ic, r0, r1, r2, r3, ty, dy, st, S, O, ar, qi', qk', qp', upd ly p (nI n), wl)) : wpY_removeHead post (nI T, nI P, nI N, nI Q, nI al, ic, r0, r1, r2, r3, ty, dy, st, S, O, ar, qi, qk, qp, ly, wl) (nI p) := by
  have v1 : vp_in (nI p) 16 := vp_in_nI (by omega) (by omega)
  have c1 : (nI p).toNatClampNeg = p := nI_clamp (by omega)
  have a1 : ¬ nI p < 0 := nI_pos (by omega)
  have a2 : ¬ nI P ≤ nI p := nI_ge hp (by omega)
  have a3 : 0 < ly (nI p).toNatClampNeg := by
    rw [c1, hl]
    exact nI_lt (a := 0) (by omega) (by omega)
  unfold wpY_removeHead
  refine br_f a1 (br_f a2 ⟨v1, br_t a3 (nm_r mr_9 ⟨9, ?_⟩)⟩)
  exact ym_reL (by omega) h8 hl hq 8 0 (by omega) 0 (by omega) qi qk qp mr_Sh0 mr_Sh0 mr_Sh0
/-! who holds port x -/
theorem ym_hiL {post J : Int32 → Prop} (hp : p < 16) (h9 : n ≤ 9) (hl : ly p = nI n) (h1 : (∃ i, i < n ∧ qk (p * 9 + i) = 3 ∧ qp (p * 9 + i) = nI x) → post (nI p)) (h0 : (∀ i, i < n → ¬ (qk (p * 9 + i) = 3 ∧ qp (p * 9 + i) = nI x)) → J (nI (p + 1))) : ∀ d i, i + d = n → (∀ j, j < i → ¬ (qk (p * 9 + j) = 3 ∧ qp (p * 9 + j) = nI x)) → wY_holder_12 post J (nI x) (nI p) (nI T) (nI P) (nI N) (nI Q) (nI al) ic r0 r1 r2 r3 ty dy st S O ar qi qk qp ly wl (d + 1) (nI i) := by
  have vp : vp_in (nI p) 16 := vp_in_nI hp (by omega)
  have cp : (nI p).toNatClampNeg = p := nI_clamp (by omega)
  intro d
  induction d with
  | zero =>
    intro i hi hn
    exact ⟨vp, br_t (by rw [cp, hl]; exact nI_le (by omega) (by omega)) (nm_r (nI_1 p) (h0 (fun j hj => hn j (by omega))))⟩
  | succ d ih =>
    intro i hi hn
    have c1 := mr_qc (p := p) (i := i) hp (by omega)
    have v1 := mr_qv (p := p) (i := i) hp (by omega)
    have nx : ¬ (qk (p * 9 + i) = 3 ∧ qp (p * 9 + i) = nI x) → ∀ y, y = nI i + 1 → wY_holder_12 post J (nI x) (nI p) (nI T) (nI P) (nI N) (nI Q) (nI al) ic r0 r1 r2 r3 ty dy st S O ar qi qk qp ly wl (d + 1) y := fun z => nm_r (nI_1 i) (ih (i + 1) (by omega) (fun j hj => by
      by_cases q : j = i
      · rw [q]; exact z
      · exact hn j (by omega)))
    refine ⟨vp, br_f (by rw [cp, hl]; exact nI_ge (by omega) (by omega)) (br_f (nI_ge (b := 9) (by omega) (by omega)) ⟨v1, ?_⟩)⟩
    by_cases z1 : qk (p * 9 + i) = 3
    · refine br_t (by rw [c1]; exact z1) ⟨v1, ?_⟩
      by_cases z2 : qp (p * 9 + i) = nI x
      · exact br_t (by rw [c1]; exact z2) (h1 ⟨i, by omega, z1, z2⟩)
      · exact br_f (by rw [c1]; exact z2) (nx (fun q => z2 q.2))
    · exact br_f (by rw [c1]; exact z1) (nx (fun q => z1 q.1))
theorem ym_hoL {post : Int32 → Prop} {q : Nat} (hP : P ≤ 16) (hq : q < P) (hl : mr_LY l ly) (h9 : ∀ p, p < 16 → l p ≤ 9) (hm : ∃ i, i < l q ∧ qk (q * 9 + i) = 3 ∧ qp (q * 9 + i) = nI x) (hu : ∀ q' i', q' < 16 → i' < l q' → qk (q' * 9 + i') = 3 → qp (q' * 9 + i') = nI x → q' = q) (hp : post (nI q)) : ∀ d p, p + d = q → wY_holder_2 post (nI x) (nI T) (nI P) (nI N) (nI Q) (nI al) ic r0 r1 r2 r3 ty dy st S O ar qi qk qp ly wl (d + 1) (nI p) := by
  intro d
  induction d with
  | zero =>
    intro p hi
    have e : p = q := by omega
    rw [e]
    refine br_f (nI_ge (by omega) (by omega)) ⟨l q + 1, ?_⟩
    exact ym_hiL (by omega) (h9 q (by omega)) (hl q (by omega)) (fun _ => hp) (fun a => by
      obtain ⟨i, b1, b2, b3⟩ := hm
      exact absurd ⟨b2, b3⟩ (a i b1)) (l q) 0 (by omega) (fun j hj => absurd hj (by omega))
  | succ d ih =>
    intro p hi
    refine br_f (nI_ge (by omega) (by omega)) ⟨l p + 1, ?_⟩
    exact ym_hiL (by omega) (h9 p (by omega)) (hl p (by omega)) (fun a => by
      obtain ⟨i, b1, b2, b3⟩ := a
      have := hu p i (by omega) b1 b2 b3
      omega) (fun _ => ih (p + 1) (by omega)) (l p) 0 (by omega) (fun j hj => absurd hj (by omega))
theorem ym_ho {post : Int32 → Prop} {q : Nat} (hP : P ≤ 16) (hq : q < P) (hl : mr_LY l ly) (h9 : ∀ p, p < 16 → l p ≤ 9) (hm : ∃ i, i < l q ∧ qk (q * 9 + i) = 3 ∧ qp (q * 9 + i) = nI x) (hu : ∀ q' i', q' < 16 → i' < l q' → qk (q' * 9 + i') = 3 → qp (q' * 9 + i') = nI x → q' = q) (hp : post (nI q)) : wpY_holder post (nI T, nI P, nI N, nI Q, nI al, ic, r0, r1, r2, r3, ty, dy, st, S, O, ar, qi, qk, qp, ly, wl) (nI x) :=
  ⟨q + 1, ym_hoL hP hq hl h9 hm hu hp q 0 (by omega)⟩
theorem ym_cyL {post : Int32 → Prop} (hP : P ≤ 16) (hal : al ≤ P) (hQ : Q ≤ 8) (hI : mr_I T N Q al (fun _ => False) 16 ty dy st S O ar h qk qp l) (hl : mr_LY l ly) (hc : c < 16) : ∀ r D, mr_rc st h r D → D < P → D ≠ c → ∀ j, j + r ≤ 16 → (mr_on h c r D → post 1) → (¬ mr_on h c r D → post 0) → ∀ n, r < n → wY_cycle_12 post (nI c) (nI T) (nI P) (nI N) (nI Q) (nI al) ic r0 r1 r2 r3 ty dy st S O ar qi qk qp ly wl n (nI D) (nI j) := by
  intro r
  induction r with
  | zero =>
    intro D hD hDP hne j hj h1 h0 n hn
    cases n with
    | zero => exact absurd hn (by omega)
    | succ n =>
      have c1 : (nI D).toNatClampNeg = D := nI_clamp (by omega)
      exact br_f (nI_ge (b := 17) (by omega) (by omega)) (br_f (nI_pos (by omega)) (br_f (nI_ge hDP (by omega)) ⟨vp_in_nI (by omega) (by omega), br_f (by rw [c1]; exact hD.2) (h0 hne)⟩))
  | succ r ih =>
    intro D hD hDP hne j hj h1 h0 n hn
    cases n with
    | zero => exact absurd hn (by omega)
    | succ n =>
      have c1 : (nI D).toNatClampNeg = D := nI_clamp (by omega)
      obtain ⟨a1, a2, q, a3, a4⟩ := hD
      obtain ⟨q', k1, k2, k3, k4⟩ := mr_hold hI a1 a2
      have q16 := mr_rc16 a4
      have ee : q' = q := mr_inj (k2.symm.trans a3) (by omega) (by omega)
      rw [ee] at k1 k3 k4
      have on := mr_onN (c := c) (r := r) hne a3 q16
      refine br_f (nI_ge (b := 17) (by omega) (by omega)) (br_f (nI_pos (by omega)) (br_f (nI_ge hDP (by omega)) ⟨vp_in_nI (by omega) (by omega), br_t (by rw [c1]; exact a2) ?_⟩))
      refine ym_ho hP (by omega) hl (fun p hp => mr_l9 hQ hI hp) k3 k4 ?_
      by_cases z : q = c
      · exact br_t (by rw [z]) (h1 (on.mpr (by rw [z]; exact mr_onS r)))
      · exact br_f (fun g => z (mr_inj g (by omega) (by omega))) (nm_r (nI_1 j) (ih q a4 (by omega) z (j + 1) (by omega) (fun g => h1 (on.mpr g)) (fun g => h0 (fun f => g (on.mp f))) n (by omega)))
theorem ym_cy {post : Int32 → Prop} {r : Nat} (hP : P ≤ 16) (hal : al ≤ P) (hQ : Q ≤ 8) (hI : mr_I T N Q al (fun _ => False) 16 ty dy st S O ar h qk qp l) (hl : mr_LY l ly) (hc : c < 16) (hD : mr_rc st h r D) (hDP : D < P) (h1 : mr_on h c r D → post 1) (h0 : ¬ mr_on h c r D → post 0) : wpY_cycle post (nI T, nI P, nI N, nI Q, nI al, ic, r0, r1, r2, r3, ty, dy, st, S, O, ar, qi, qk, qp, ly, wl) (nI c) (nI D) := by
  unfold wpY_cycle
  by_cases z : D = c
  · exact br_t (by rw [z]) (h1 (by rw [z]; exact mr_onS r))
  · exact br_f (fun g => z (mr_inj g (by omega) (by omega)).symm) ⟨r + 1, ym_cyL hP hal hQ hI hl hc r D hD hDP z 0 (by have := mr_rcb hD; omega) h1 h0 (r + 1) (by omega)⟩
end
end
section
/-! the relation of the two states, and the constructors -/
def i_Rel (k : Nat) (u : SX) (v : SY) : Prop := ∃ (T P N Q al : Nat) (l : Nat → Nat) (dc ic : Int32) (tx dx st S O ar lx h mi mk mp wl rc ty dy qi qk qp ly : Nat → Int32), u = (nI T, nI P, nI N, nI Q, dc, nI al, ic, tx, dx, st, S, O, ar, lx, h, mi, mk, mp, wl, rc) ∧ v = (nI T, nI P, nI N, nI Q, nI al, ic, rc 0, rc 1, rc 2, rc 3, ty, dy, st, S, O, ar, qi, qk, qp, ly, wl) ∧ mr_R (fun _ => False) 16 0 T P N Q al l tx dx st S O ar lx h mi mk mp ty dy qi qk qp ly
theorem i_up {k : Nat} {u : SX} {v : SY} (h : i_Rel k u v) : i_Rel (k + 5) u v := h
theorem mr_cl (y : Int32) (a b : Nat) (hab : a ≤ b) (hb : b < 100) : ∃ n, a ≤ n ∧ n ≤ b ∧ (∀ post : Int32 → Prop, post (nI n) → wpX_clamp post y (nI a) (nI b)) ∧ (∀ (u : SY) (post : Int32 → Prop), post (nI n) → wpY_clamp post u y (nI a) (nI b)) := by
  by_cases h1 : nI a ≤ y
  · have h0 : ¬ y < 0 := fun q => by
      have := nI_pos (n := a) (by omega)
      exact this (Int32.lt_of_le_of_lt h1 q)
    obtain ⟨j, hj, rfl⟩ := nI_of h0
    by_cases h2 : j ≤ b
    · refine ⟨j, (nI_leI (by omega) hj).mp h1, h2, fun post hp => br_t h1 (br_t (nI_le h2 (by omega)) hp), fun u post hp => ?_⟩
      obtain ⟨_, _, _, _, _, _, _, _, _, _, _, _, _, _, _, _, _, _, _, _, _⟩ := u
      exact br_t h1 (br_t (nI_le h2 (by omega)) hp)
    · refine ⟨b, hab, Nat.le_refl _, fun post hp => br_t h1 (br_f (nI_ge (by omega) hj) hp), fun u post hp => ?_⟩
      obtain ⟨_, _, _, _, _, _, _, _, _, _, _, _, _, _, _, _, _, _, _, _, _⟩ := u
      exact br_t h1 (br_f (nI_ge (by omega) hj) hp)
  · refine ⟨a, Nat.le_refl _, hab, fun post hp => br_f h1 hp, fun u post hp => ?_⟩
    obtain ⟨_, _, _, _, _, _, _, _, _, _, _, _, _, _, _, _, _, _, _, _, _⟩ := u
    exact br_f h1 hp
section
variable {W W' : Nat → Prop} {e off T P N Q al p n t m x c D : Nat} {l : Nat → Nat} {dc ic r0 r1 r2 r3 : Int32} {tx dx st S O ar lx h mi mk mp wl rc ty dy qi qk qp ly : Nat → Int32} {v w i k z : Int32}
theorem mr_fin {kk : Nat} (hR : mr_R (fun _ => False) 16 off T P N Q al l tx dx st S O ar lx h mi mk mp ty dy qi qk qp ly) (e0 : rc 0 = r0) (e1 : rc 1 = r1) (e2 : rc 2 = r2) (e3 : rc 3 = r3) : i_Rel kk (nI T, nI P, nI N, nI Q, dc, nI al, ic, tx, dx, st, S, O, ar, lx, h, mi, mk, mp, wl, rc) (nI T, nI P, nI N, nI Q, nI al, ic, r0, r1, r2, r3, ty, dy, st, S, O, ar, qi, qk, qp, ly, wl) := by
  subst e0 e1 e2 e3
  obtain ⟨hB, hNN, hX, hY, g1, g2, g3, hb, hI⟩ := hR
  exact ⟨T, P, N, Q, al, l, dc, ic, tx, dx, st, S, O, ar, lx, h, mi, mk, mp, wl, rc, ty, dy, qi, qk, qp, ly, rfl, rfl, hB, hNN, hX, hY, mr_Gd g1, mr_Gd g2, mr_Gd g3, fun q => absurd q (by omega), hI⟩
theorem xm_inL {post : SX → Prop} {f0 f1 f2 f3 f4 f5 f6 : Int32} (hq : ∀ dx' : Nat → Int32, (∀ c, c < 32 → dx' c = -1) → post (f0, f1, f2, f3, f4, f5, f6, tx, dx', st, S, O, ar, lx, h, mi, mk, mp, wl, upd rc 3 (-1))) : ∀ d i, i + d = 32 → ∀ dx : Nat → Int32, (∀ c, c < i → dx c = -1) → wX_init_172 post f0 f1 f2 f3 f4 f5 f6 (d + 1) (nI i) tx dx st S O ar lx h mi mk mp wl rc := by
  intro d
  induction d with
  | zero =>
    intro i hi dx hd
    exact br_t (nI_le (a := 32) (by omega) (by omega)) (nm_e (hq dx (fun c hc => hd c (by omega))))
  | succ d ih =>
    intro i hi dx hd
    have c1 : (nI i).toNatClampNeg = i := nI_clamp (by omega)
    refine br_f (nI_ge (b := 32) (by omega) (by omega)) ⟨vp_in_nI (by omega) (by omega), nm_r (e' := upd dx i (-1)) (by rw [c1]) (nm_r (nI_1 i) (ih (i + 1) (by omega) _ (fun c hc => ?_)))⟩
    by_cases q : c = i
    · rw [q, pk_us]
    · rw [pk_un q]
      exact hd c (by omega)
theorem ym_inL {post : SY → Prop} {f0 f1 f2 f3 f4 f5 f6 f7 f8 f9 : Int32} (hq : ∀ dy' : Nat → Int32, (∀ c, c < 36 → dy' c = -1) → post (f0, f1, f2, f3, f4, f5, f6, f7, f8, f9, ty, dy', st, S, O, ar, qi, qk, qp, ly, wl)) : ∀ d i, i + d = 36 → ∀ dy : Nat → Int32, (∀ c, c < i → dy c = -1) → wY_init_151 post f0 f1 f2 f3 f4 f5 f6 f7 f8 f9 (d + 1) (nI i) ty dy st S O ar qi qk qp ly wl := by
  intro d
  induction d with
  | zero =>
    intro i hi dy hd
    exact br_t (nI_le (a := 36) (by omega) (by omega)) (hq dy (fun c hc => hd c (by omega)))
  | succ d ih =>
    intro i hi dy hd
    have c1 : (nI i).toNatClampNeg = i := nI_clamp (by omega)
    refine br_f (nI_ge (b := 36) (by omega) (by omega)) ⟨vp_in_nI (by omega) (by omega), nm_r (e' := upd dy i (-1)) (by rw [c1]) (nm_r (nI_1 i) (ih (i + 1) (by omega) _ (fun c hc => ?_)))⟩
    by_cases q : c = i
    · rw [q, pk_us]
    · rw [pk_un q]
      exact hd c (by omega)
theorem mr_R0 (hB : mr_B T P N Q 0) (hx : ∀ c, c < 32 → dx c = -1) (hy : ∀ c, c < 36 → dy c = -1) : mr_R (fun _ => False) 16 0 T P N Q 0 (fun _ => 0) (fun _ => 0) dx (fun _ => 0) (fun _ => 0) (fun _ => 0) (fun _ => 0) (fun _ => 0) (fun _ => 0) (fun _ => 0) (fun _ => 0) (fun _ => 0) (fun _ => 0) dy (fun _ => 0) (fun _ => 0) (fun _ => 0) (fun _ => 0) := by
  have n0 : ¬ ((0 : Int32) = 1 ∨ (0 : Int32) = 3) := by decide
  have n2 : ¬ (0 : Int32) = 2 := by decide
  refine ⟨hB, fun t m ht hm => ⟨rfl, (hx _ (by omega)).trans (hy _ (by omega)).symm⟩, fun p hp => ?_, fun p hp => rfl, fun p i hp hi => absurd hi (Nat.not_lt_zero i), fun p i hp hi => absurd hi (Nat.not_lt_zero i), fun p i hp hi => absurd hi (Nat.not_lt_zero i), fun q => absurd q (by omega), fun c hc => Or.inl ⟨rfl, hy c hc⟩, fun c c' _ _ a _ _ => absurd a n0, fun p hp => ⟨fun _ => rfl, fun _ => ⟨rfl, rfl, rfl⟩, Or.inl rfl⟩, fun p _ _ _ => rfl, fun p hp => ⟨Nat.zero_le _, Nat.zero_le _, fun _ => rfl⟩, fun p i hp hi => absurd hi (Nat.not_lt_zero i), fun p i p' i' hp hi _ _ => absurd hi (Nat.not_lt_zero i), fun z hz a => absurd a n2, fun p hp => ⟨0, hp, n2⟩⟩
  rw [ite_self]
  rfl
end
theorem i_vc0 (k0 : Int32) (k1 : Int32) (k2 : Int32) (k3 : Int32) : wpX_init (fun u => wpY_init (fun v => i_Rel 4 u v) k0 k1 k2 k3) k0 k1 k2 k3 := by
  obtain ⟨T, t1, t2, tX, tY⟩ := mr_cl k0 2 4 (by omega) (by omega)
  obtain ⟨P, p1, p2, pX, pY⟩ := mr_cl k1 4 16 (by omega) (by omega)
  obtain ⟨N, n1, n2, nX, nY⟩ := mr_cl k2 4 8 (by omega) (by omega)
  obtain ⟨Q, q1, q2, qX, qY⟩ := mr_cl k3 2 8 (by omega) (by omega)
  unfold wpX_init
  refine tX _ ?_
  refine pX _ ?_
  refine nX _ ?_
  refine qX _ ⟨33, ?_⟩
  refine xm_inL (fun dx hx => ?_) 32 0 (by omega) _ (fun c hc => absurd hc (by omega))
  unfold wpY_init
  refine tY _ _ ?_
  refine pY _ _ ?_
  refine nY _ _ ?_
  refine qY _ _ ⟨37, ?_⟩
  refine ym_inL (fun dy hy => ?_) 36 0 (by omega) _ (fun c hc => absurd hc (by omega))
  exact mr_fin (al := 0) (mr_R0 ⟨t1, t2, p1, p2, n1, n2, q1, q2, Nat.zero_le _⟩ hx hy) rfl rfl rfl rfl
end
section
/-! the getters -/
section
variable {W W' : Nat → Prop} {e off T P N Q al p n t m x c D : Nat} {l : Nat → Nat} {dc ic r0 r1 r2 r3 : Int32} {tx dx st S O ar lx h mi mk mp wl rc ty dy qi qk qp ly : Nat → Int32} {v w i k z : Int32}
theorem ym_ntT {post : Int32 → Prop} {y y2 : Int32} (hy : y < 0 ∨ nI T ≤ y) (hp : post 0) : wpY_nameType post (nI T, nI P, nI N, nI Q, nI al, ic, r0, r1, r2, r3, ty, dy, st, S, O, ar, qi, qk, qp, ly, wl) y y2 := by
  unfold wpY_nameType
  exact ym_task0 hy (br_t rfl hp)
theorem ym_nt0 {post : Int32 → Prop} {y : Int32} (ht : t < T) (hT : T ≤ 4) (hy : y < 1 ∨ nI N < y) (hp : post 0) : wpY_nameType post (nI T, nI P, nI N, nI Q, nI al, ic, r0, r1, r2, r3, ty, dy, st, S, O, ar, qi, qk, qp, ly, wl) (nI t) y := by
  unfold wpY_nameType
  refine ym_task1 ht hT (br_f mr_10 ?_)
  exact ym_name0 hy (br_t rfl hp)
theorem ym_nt1 {post : Int32 → Prop} (ht : t < T) (hT : T ≤ 4) (hm : m < N) (hN : N ≤ 8) (hp : post (ty (t * 9 + (m + 1)))) : wpY_nameType post (nI T, nI P, nI N, nI Q, nI al, ic, r0, r1, r2, r3, ty, dy, st, S, O, ar, qi, qk, qp, ly, wl) (nI t) (nI (m + 1)) := by
  unfold wpY_nameType
  refine ym_task1 ht hT (br_f mr_10 ?_)
  refine ym_name1 hm hN (br_f mr_10 ⟨mr_yv (by omega) (by omega), ?_⟩)
  rw [mr_ycl (by omega) (by omega)]
  exact hp
theorem ym_npT {post : Int32 → Prop} {y y2 : Int32} (hy : y < 0 ∨ nI T ≤ y) (hp : post (-1)) : wpY_namePort post (nI T, nI P, nI N, nI Q, nI al, ic, r0, r1, r2, r3, ty, dy, st, S, O, ar, qi, qk, qp, ly, wl) y y2 := by
  unfold wpY_namePort
  exact ym_task0 hy (br_t rfl hp)
theorem ym_np0 {post : Int32 → Prop} {y : Int32} (ht : t < T) (hT : T ≤ 4) (hy : y < 1 ∨ nI N < y) (hp : post (-1)) : wpY_namePort post (nI T, nI P, nI N, nI Q, nI al, ic, r0, r1, r2, r3, ty, dy, st, S, O, ar, qi, qk, qp, ly, wl) (nI t) y := by
  unfold wpY_namePort
  refine ym_task1 ht hT (br_f mr_10 ?_)
  exact ym_name0 hy (br_t rfl hp)
theorem ym_np1 {post : Int32 → Prop} (ht : t < T) (hT : T ≤ 4) (hm : m < N) (hN : N ≤ 8) (h0 : ty (t * 9 + (m + 1)) = 0 → dy (t * 9 + (m + 1)) = -1) (hp : post (dy (t * 9 + (m + 1)))) : wpY_namePort post (nI T, nI P, nI N, nI Q, nI al, ic, r0, r1, r2, r3, ty, dy, st, S, O, ar, qi, qk, qp, ly, wl) (nI t) (nI (m + 1)) := by
  have c1 := mr_ycl (t := t) (n := m + 1) (by omega) (by omega)
  have v1 := mr_yv (t := t) (n := m + 1) (by omega) (by omega)
  unfold wpY_namePort
  refine ym_task1 ht hT (br_f mr_10 ?_)
  refine ym_name1 hm hN (br_f mr_10 ⟨v1, ?_⟩)
  by_cases z : ty (t * 9 + (m + 1)) = 0
  · rw [h0 z] at hp
    exact br_t (by rw [c1]; exact z) hp
  · refine br_f (by rw [c1]; exact z) ⟨v1, ?_⟩
    rw [c1]
    exact hp
theorem xm_portState1 {post : Int32 → Prop} (h1 : p < P) (hP : P ≤ 16) (hp : post (st p)) : wpX_portState post (nI T, nI P, nI N, nI Q, dc, nI al, ic, tx, dx, st, S, O, ar, lx, h, mi, mk, mp, wl, rc) (nI p) := by
  unfold wpX_portState
  refine xm_port1 h1 hP (br_f mr_10 ⟨vp_in_nI (by omega) (by omega), ?_⟩)
  rw [nI_clamp (by omega)]
  exact hp
theorem xm_portState0 {post : Int32 → Prop} {y : Int32} (hy : y < 0 ∨ nI P ≤ y) (hp : post 0) : wpX_portState post (nI T, nI P, nI N, nI Q, dc, nI al, ic, tx, dx, st, S, O, ar, lx, h, mi, mk, mp, wl, rc) y := by
  unfold wpX_portState
  exact xm_port0 hy (br_t rfl hp)
theorem xm_sendRights1 {post : Int32 → Prop} (h1 : p < P) (hP : P ≤ 16) (hp : post (S p)) : wpX_sendRights post (nI T, nI P, nI N, nI Q, dc, nI al, ic, tx, dx, st, S, O, ar, lx, h, mi, mk, mp, wl, rc) (nI p) := by
  unfold wpX_sendRights
  refine xm_port1 h1 hP (br_f mr_10 ⟨vp_in_nI (by omega) (by omega), ?_⟩)
  rw [nI_clamp (by omega)]
  exact hp
theorem xm_sendRights0 {post : Int32 → Prop} {y : Int32} (hy : y < 0 ∨ nI P ≤ y) (hp : post 0) : wpX_sendRights post (nI T, nI P, nI N, nI Q, dc, nI al, ic, tx, dx, st, S, O, ar, lx, h, mi, mk, mp, wl, rc) y := by
  unfold wpX_sendRights
  exact xm_port0 hy (br_t rfl hp)
theorem xm_sendOnceRights1 {post : Int32 → Prop} (h1 : p < P) (hP : P ≤ 16) (hp : post (O p)) : wpX_sendOnceRights post (nI T, nI P, nI N, nI Q, dc, nI al, ic, tx, dx, st, S, O, ar, lx, h, mi, mk, mp, wl, rc) (nI p) := by
  unfold wpX_sendOnceRights
  refine xm_port1 h1 hP (br_f mr_10 ⟨vp_in_nI (by omega) (by omega), ?_⟩)
  rw [nI_clamp (by omega)]
  exact hp
theorem xm_sendOnceRights0 {post : Int32 → Prop} {y : Int32} (hy : y < 0 ∨ nI P ≤ y) (hp : post 0) : wpX_sendOnceRights post (nI T, nI P, nI N, nI Q, dc, nI al, ic, tx, dx, st, S, O, ar, lx, h, mi, mk, mp, wl, rc) y := by
  unfold wpX_sendOnceRights
  exact xm_port0 hy (br_t rfl hp)
theorem xm_queueLength1 {post : Int32 → Prop} (h1 : p < P) (hP : P ≤ 16) (hp : post (lx p)) : wpX_queueLength post (nI T, nI P, nI N, nI Q, dc, nI al, ic, tx, dx, st, S, O, ar, lx, h, mi, mk, mp, wl, rc) (nI p) := by
  unfold wpX_queueLength
  refine xm_port1 h1 hP (br_f mr_10 ⟨vp_in_nI (by omega) (by omega), ?_⟩)
  rw [nI_clamp (by omega)]
  exact hp
theorem xm_queueLength0 {post : Int32 → Prop} {y : Int32} (hy : y < 0 ∨ nI P ≤ y) (hp : post 0) : wpX_queueLength post (nI T, nI P, nI N, nI Q, dc, nI al, ic, tx, dx, st, S, O, ar, lx, h, mi, mk, mp, wl, rc) y := by
  unfold wpX_queueLength
  exact xm_port0 hy (br_t rfl hp)
theorem ym_sendRights1 {post : Int32 → Prop} (h1 : p < P) (hP : P ≤ 16) (h0 : ¬ mr_lv st p → S p = 0) (hp : post (S p)) : wpY_sendRights post (nI T, nI P, nI N, nI Q, nI al, ic, r0, r1, r2, r3, ty, dy, st, S, O, ar, qi, qk, qp, ly, wl) (nI p) := by
  unfold wpY_sendRights
  by_cases hl : mr_lv st p
  · refine ym_live1 h1 hP hl (br_f mr_10 ⟨vp_in_nI (by omega) (by omega), ?_⟩)
    rw [nI_clamp (by omega)]
    exact hp
  · rw [h0 hl] at hp
    exact ym_live0 (by omega) hP hl (br_t rfl hp)
theorem ym_sendRights0 {post : Int32 → Prop} {y : Int32} (hy : y < 0 ∨ nI P ≤ y) (hp : post 0) : wpY_sendRights post (nI T, nI P, nI N, nI Q, nI al, ic, r0, r1, r2, r3, ty, dy, st, S, O, ar, qi, qk, qp, ly, wl) y := by
  unfold wpY_sendRights
  exact ym_liveN hy (br_t rfl hp)
theorem ym_sendOnceRights1 {post : Int32 → Prop} (h1 : p < P) (hP : P ≤ 16) (h0 : ¬ mr_lv st p → O p = 0) (hp : post (O p)) : wpY_sendOnceRights post (nI T, nI P, nI N, nI Q, nI al, ic, r0, r1, r2, r3, ty, dy, st, S, O, ar, qi, qk, qp, ly, wl) (nI p) := by
  unfold wpY_sendOnceRights
  by_cases hl : mr_lv st p
  · refine ym_live1 h1 hP hl (br_f mr_10 ⟨vp_in_nI (by omega) (by omega), ?_⟩)
    rw [nI_clamp (by omega)]
    exact hp
  · rw [h0 hl] at hp
    exact ym_live0 (by omega) hP hl (br_t rfl hp)
theorem ym_sendOnceRights0 {post : Int32 → Prop} {y : Int32} (hy : y < 0 ∨ nI P ≤ y) (hp : post 0) : wpY_sendOnceRights post (nI T, nI P, nI N, nI Q, nI al, ic, r0, r1, r2, r3, ty, dy, st, S, O, ar, qi, qk, qp, ly, wl) y := by
  unfold wpY_sendOnceRights
  exact ym_liveN hy (br_t rfl hp)
theorem ym_queueLength1 {post : Int32 → Prop} (h1 : p < P) (hP : P ≤ 16) (h0 : ¬ mr_lv st p → ly p = 0) (hp : post (ly p)) : wpY_queueLength post (nI T, nI P, nI N, nI Q, nI al, ic, r0, r1, r2, r3, ty, dy, st, S, O, ar, qi, qk, qp, ly, wl) (nI p) := by
  unfold wpY_queueLength
  by_cases hl : mr_lv st p
  · refine ym_live1 h1 hP hl (br_f mr_10 ⟨vp_in_nI (by omega) (by omega), ?_⟩)
    rw [nI_clamp (by omega)]
    exact hp
  · rw [h0 hl] at hp
    exact ym_live0 (by omega) hP hl (br_t rfl hp)
theorem ym_queueLength0 {post : Int32 → Prop} {y : Int32} (hy : y < 0 ∨ nI P ≤ y) (hp : post 0) : wpY_queueLength post (nI T, nI P, nI N, nI Q, nI al, ic, r0, r1, r2, r3, ty, dy, st, S, O, ar, qi, qk, qp, ly, wl) y := by
  unfold wpY_queueLength
  exact ym_liveN hy (br_t rfl hp)
theorem ym_portState1 {post : Int32 → Prop} (h1 : p < P) (hP : P ≤ 16) (hp : post (st p)) : wpY_portState post (nI T, nI P, nI N, nI Q, nI al, ic, r0, r1, r2, r3, ty, dy, st, S, O, ar, qi, qk, qp, ly, wl) (nI p) := by
  unfold wpY_portState
  refine br_f (nI_pos (by omega)) (br_t (nI_lt h1 (by omega)) ⟨vp_in_nI (by omega) (by omega), ?_⟩)
  rw [nI_clamp (by omega)]
  exact hp
theorem ym_portState0 {post : Int32 → Prop} {y : Int32} (hy : y < 0 ∨ nI P ≤ y) (hp : post 0) : wpY_portState post (nI T, nI P, nI N, nI Q, nI al, ic, r0, r1, r2, r3, ty, dy, st, S, O, ar, qi, qk, qp, ly, wl) y := by
  unfold wpY_portState
  by_cases a1 : y < 0
  · exact br_t a1 hp
  · exact br_f a1 (br_f (Int32.not_lt.mpr (hy.resolve_left a1)) hp)
end
theorem i_vc_nameType {k : Nat} {u : SX} {v : SY} (I : i_Rel k u v) (hk : k + 5 ≤ 2564) (v1 : Int32) (v2 : Int32) : wpX_nameType (fun r => wpY_nameType (fun r' => r' = r ∧ i_Rel (k + 5) u v) v v1 v2) u v1 v2 := by
  obtain ⟨T, P, N, Q, al, l, dc, ic, tx, dx, st, S, O, ar, lx, h, mi, mk, mp, wl, rc, ty, dy, qi, qk, qp, ly, rfl, rfl, hR⟩ := I
  obtain ⟨b1, b2, b3, b4, b5, b6⟩ := mr_Rb hR
  have F := mr_fin (kk := k + 5) (dc := dc) (ic := ic) (wl := wl) (rc := rc) hR rfl rfl rfl rfl
  rcases mr_tk (T := T) v1 (by omega) with hy | ⟨t, ht, rfl⟩
  · exact xm_ntT hy (ym_ntT hy ⟨rfl, F⟩)
  rcases mr_nk (N := N) v2 b4 with hn | ⟨m, hm, rfl⟩
  · exact xm_nt0 ht b1 hn (ym_nt0 ht b1 hn ⟨rfl, F⟩)
  · exact xm_nt1 ht b1 hm b4 (ym_nt1 ht b1 hm b4 ⟨(hR.2.1 t m (by omega) (by omega)).1.symm, F⟩)
theorem i_vc_namePort {k : Nat} {u : SX} {v : SY} (I : i_Rel k u v) (hk : k + 5 ≤ 2564) (v1 : Int32) (v2 : Int32) : wpX_namePort (fun r => wpY_namePort (fun r' => r' = r ∧ i_Rel (k + 5) u v) v v1 v2) u v1 v2 := by
  obtain ⟨T, P, N, Q, al, l, dc, ic, tx, dx, st, S, O, ar, lx, h, mi, mk, mp, wl, rc, ty, dy, qi, qk, qp, ly, rfl, rfl, hR⟩ := I
  obtain ⟨b1, b2, b3, b4, b5, b6⟩ := mr_Rb hR
  have F := mr_fin (kk := k + 5) (dc := dc) (ic := ic) (wl := wl) (rc := rc) hR rfl rfl rfl rfl
  rcases mr_tk (T := T) v1 (by omega) with hy | ⟨t, ht, rfl⟩
  · exact xm_npT hy (ym_npT hy ⟨rfl, F⟩)
  rcases mr_nk (N := N) v2 b4 with hn | ⟨m, hm, rfl⟩
  · exact xm_np0 ht b1 hn (ym_np0 ht b1 hn ⟨rfl, F⟩)
  · exact xm_np1 ht b1 hm b4 (ym_np1 ht b1 hm b4 (fun z => mr_Nf hR.2.2.2.2.2.2.2.2.1 (by omega) z) ⟨(hR.2.1 t m (by omega) (by omega)).2.symm, F⟩)
theorem i_vc_portState {k : Nat} {u : SX} {v : SY} (I : i_Rel k u v) (hk : k + 5 ≤ 2564) (v1 : Int32) : wpX_portState (fun r => wpY_portState (fun r' => r' = r ∧ i_Rel (k + 5) u v) v v1) u v1 := by
  obtain ⟨T, P, N, Q, al, l, dc, ic, tx, dx, st, S, O, ar, lx, h, mi, mk, mp, wl, rc, ty, dy, qi, qk, qp, ly, rfl, rfl, hR⟩ := I
  obtain ⟨b1, b2, b3, b4, b5, b6⟩ := mr_Rb hR
  have F := mr_fin (kk := k + 5) (dc := dc) (ic := ic) (wl := wl) (rc := rc) hR rfl rfl rfl rfl
  rcases mr_tk (T := P) v1 (by omega) with hy | ⟨p, hp, rfl⟩
  · exact xm_portState0 hy (ym_portState0 hy ⟨rfl, F⟩)
  · exact xm_portState1 hp b3 (ym_portState1 hp b3 ⟨rfl, F⟩)
theorem i_vc_sendRights {k : Nat} {u : SX} {v : SY} (I : i_Rel k u v) (hk : k + 5 ≤ 2564) (v1 : Int32) : wpX_sendRights (fun r => wpY_sendRights (fun r' => r' = r ∧ i_Rel (k + 5) u v) v v1) u v1 := by
  obtain ⟨T, P, N, Q, al, l, dc, ic, tx, dx, st, S, O, ar, lx, h, mi, mk, mp, wl, rc, ty, dy, qi, qk, qp, ly, rfl, rfl, hR⟩ := I
  obtain ⟨b1, b2, b3, b4, b5, b6⟩ := mr_Rb hR
  have F := mr_fin (kk := k + 5) (dc := dc) (ic := ic) (wl := wl) (rc := rc) hR rfl rfl rfl rfl
  rcases mr_tk (T := P) v1 (by omega) with hy | ⟨p, hp, rfl⟩
  · exact xm_sendRights0 hy (ym_sendRights0 hy ⟨rfl, F⟩)
  · exact xm_sendRights1 hp b3 (ym_sendRights1 hp b3 (fun z => ((hR.2.2.2.2.2.2.2.2.2.2.1 p (by omega)).2.1 z).1) ⟨rfl, F⟩)
theorem i_vc_sendOnceRights {k : Nat} {u : SX} {v : SY} (I : i_Rel k u v) (hk : k + 5 ≤ 2564) (v1 : Int32) : wpX_sendOnceRights (fun r => wpY_sendOnceRights (fun r' => r' = r ∧ i_Rel (k + 5) u v) v v1) u v1 := by
  obtain ⟨T, P, N, Q, al, l, dc, ic, tx, dx, st, S, O, ar, lx, h, mi, mk, mp, wl, rc, ty, dy, qi, qk, qp, ly, rfl, rfl, hR⟩ := I
  obtain ⟨b1, b2, b3, b4, b5, b6⟩ := mr_Rb hR
  have F := mr_fin (kk := k + 5) (dc := dc) (ic := ic) (wl := wl) (rc := rc) hR rfl rfl rfl rfl
  rcases mr_tk (T := P) v1 (by omega) with hy | ⟨p, hp, rfl⟩
  · exact xm_sendOnceRights0 hy (ym_sendOnceRights0 hy ⟨rfl, F⟩)
  · exact xm_sendOnceRights1 hp b3 (ym_sendOnceRights1 hp b3 (fun z => ((hR.2.2.2.2.2.2.2.2.2.2.1 p (by omega)).2.1 z).2.1) ⟨rfl, F⟩)
theorem mr_lxy {p T P N Q al : Nat} {l : Nat → Nat} {tx dx st S O ar lx h mi mk mp ty dy qi qk qp ly : Nat → Int32} (hR : mr_R (fun _ => False) 16 0 T P N Q al l tx dx st S O ar lx h mi mk mp ty dy qi qk qp ly) (hp : p < 16) : lx p = nI (l p) ∧ ly p = nI (l p) ∧ l p ≤ 9 ∧ (¬ mr_lv st p → l p = 0) := by
  have a := hR.2.2.1 p hp
  rw [if_neg (by omega)] at a
  obtain ⟨b1, b2, b3, b4, b5, b6⟩ := mr_Rb hR
  have hI := hR.2.2.2.2.2.2.2.2
  exact ⟨a, hR.2.2.2.1 p hp, mr_l9 b5 hI hp, fun z => hI.2.2.2.1 p hp (by omega) z⟩
theorem i_vc_queueLength {k : Nat} {u : SX} {v : SY} (I : i_Rel k u v) (hk : k + 5 ≤ 2564) (v1 : Int32) : wpX_queueLength (fun r => wpY_queueLength (fun r' => r' = r ∧ i_Rel (k + 5) u v) v v1) u v1 := by
  obtain ⟨T, P, N, Q, al, l, dc, ic, tx, dx, st, S, O, ar, lx, h, mi, mk, mp, wl, rc, ty, dy, qi, qk, qp, ly, rfl, rfl, hR⟩ := I
  obtain ⟨b1, b2, b3, b4, b5, b6⟩ := mr_Rb hR
  have F := mr_fin (kk := k + 5) (dc := dc) (ic := ic) (wl := wl) (rc := rc) hR rfl rfl rfl rfl
  rcases mr_tk (T := P) v1 (by omega) with hy | ⟨p, hp, rfl⟩
  · exact xm_queueLength0 hy (ym_queueLength0 hy ⟨rfl, F⟩)
  · obtain ⟨e1, e2, e3, e4⟩ := mr_lxy hR (p := p) (by omega)
    exact xm_queueLength1 hp b3 (ym_queueLength1 hp b3 (fun z => by rw [e2, e4 z]; exact nI_0) ⟨e2.trans e1.symm, F⟩)
theorem i_vc_isArmed {k : Nat} {u : SX} {v : SY} (I : i_Rel k u v) (hk : k + 5 ≤ 2564) (v1 : Int32) : wpX_isArmed (fun r => wpY_isArmed (fun r' => r' = r ∧ i_Rel (k + 5) u v) v v1) u v1 := by
  obtain ⟨T, P, N, Q, al, l, dc, ic, tx, dx, st, S, O, ar, lx, h, mi, mk, mp, wl, rc, ty, dy, qi, qk, qp, ly, rfl, rfl, hR⟩ := I
  obtain ⟨b1, b2, b3, b4, b5, b6⟩ := mr_Rb hR
  have F := mr_fin (kk := k + 5) (dc := dc) (ic := ic) (wl := wl) (rc := rc) hR rfl rfl rfl rfl
  unfold wpX_isArmed
  rcases mr_tk (T := P) v1 (by omega) with hy | ⟨p, hp, rfl⟩
  · refine xm_port0 hy (br_t rfl ?_)
    unfold wpY_isArmed
    by_cases a1 : v1 < 0
    · exact br_t a1 ⟨rfl, F⟩
    · exact br_f a1 (br_f (Int32.not_lt.mpr (hy.resolve_left a1)) ⟨rfl, F⟩)
  · have c1 : (nI p).toNatClampNeg = p := nI_clamp (by omega)
    have v0 : vp_in (nI p) 16 := vp_in_nI (by omega) (by omega)
    refine xm_port1 hp b3 (br_f mr_10 ⟨v0, ?_⟩)
    have Y1 : ∀ post : Int32 → Prop, post (ar p) → (ar p = 0 ∨ ar p = 1) → wpY_isArmed post (nI T, nI P, nI N, nI Q, nI al, ic, rc 0, rc 1, rc 2, rc 3, ty, dy, st, S, O, ar, qi, qk, qp, ly, wl) (nI p) := by
      intro post hq ha
      unfold wpY_isArmed
      refine br_f (nI_pos (by omega)) (br_t (nI_lt hp (by omega)) ⟨v0, ?_⟩)
      rw [c1]
      refine ⟨?_, hq⟩
      rcases ha with ha | ha
      · rw [ha]; rfl
      · rw [ha]; rfl
    have ha := (hR.2.2.2.2.2.2.2.2.2.2.1 p (by omega)).2.2
    by_cases z : ar p = 0
    · exact br_t (by rw [c1]; exact z) (Y1 _ ⟨z, F⟩ ha)
    · exact br_f (by rw [c1]; exact z) (Y1 _ ⟨ha.resolve_left z, F⟩ ha)
end
section
/-! queueAt and lastReceived -/
section
variable {W W' : Nat → Prop} {e off T P N Q al p n t m x c D : Nat} {l : Nat → Nat} {dc ic r0 r1 r2 r3 : Int32} {tx dx st S O ar lx h mi mk mp wl rc ty dy qi qk qp ly : Nat → Int32} {v w i k z : Int32}
theorem ym_qaN {post : Int32 → Prop} {y2 y3 : Int32} (h1 : p < P) (hP : P ≤ 16) (hl : ¬ mr_lv st p) (hp : post (-1)) : wpY_queueAt post (nI T, nI P, nI N, nI Q, nI al, ic, r0, r1, r2, r3, ty, dy, st, S, O, ar, qi, qk, qp, ly, wl) (nI p) y2 y3 := by
  unfold wpY_queueAt
  exact ym_live0 (by omega) hP hl (br_t rfl hp)
end
theorem i_vc_queueAt {k : Nat} {u : SX} {v : SY} (I : i_Rel k u v) (hk : k + 5 ≤ 2564) (v1 : Int32) (v2 : Int32) (v3 : Int32) : wpX_queueAt (fun r => wpY_queueAt (fun r' => r' = r ∧ i_Rel (k + 5) u v) v v1 v2 v3) u v1 v2 v3 := by
  obtain ⟨T, P, N, Q, al, l, dc, ic, tx, dx, st, S, O, ar, lx, h, mi, mk, mp, wl, rc, ty, dy, qi, qk, qp, ly, rfl, rfl, hR⟩ := I
  obtain ⟨b1, b2, b3, b4, b5, b6⟩ := mr_Rb hR
  have F := mr_fin (kk := k + 5) (dc := dc) (ic := ic) (wl := wl) (rc := rc) hR rfl rfl rfl rfl
  rcases mr_tk (T := P) v1 (by omega) with hy | ⟨p, hp, rfl⟩
  · unfold wpX_queueAt
    refine xm_port0 hy (br_t rfl ?_)
    unfold wpY_queueAt
    exact ym_liveN hy (br_t rfl ⟨rfl, F⟩)
  · obtain ⟨e1, e2, e3, e4⟩ := mr_lxy hR (p := p) (by omega)
    have c1 : (nI p).toNatClampNeg = p := nI_clamp (by omega)
    have v0 : vp_in (nI p) 16 := vp_in_nI (by omega) (by omega)
    have g1 := hR.2.2.2.2.1
    have g2 := hR.2.2.2.2.2.1
    have g3 := hR.2.2.2.2.2.2.1
    unfold wpX_queueAt
    refine xm_port1 hp b3 (br_f mr_10 ?_)
    have YN : ∀ post : Int32 → Prop, post (-1) → (v2 < 0 ∨ nI (l p) ≤ v2) → wpY_queueAt post (nI T, nI P, nI N, nI Q, nI al, ic, rc 0, rc 1, rc 2, rc 3, ty, dy, st, S, O, ar, qi, qk, qp, ly, wl) (nI p) v2 v3 := by
      intro post hq hy
      by_cases hl : mr_lv st p
      · unfold wpY_queueAt
        refine ym_live1 hp b3 hl (br_f mr_10 ?_)
        by_cases a1 : v2 < 0
        · exact br_t a1 hq
        · exact br_f a1 ⟨v0, br_t (by rw [c1, e2]; exact hy.resolve_left a1) hq⟩
      · exact ym_qaN hp b3 hl hq
    rcases pk_ix v2 (n := l p) (by omega) with a | a | ⟨i, hi, rfl⟩
    · exact br_t a (YN _ ⟨rfl, F⟩ (Or.inl a))
    · by_cases a1 : v2 < 0
      · exact br_t a1 (YN _ ⟨rfl, F⟩ (Or.inl a1))
      · exact br_f a1 ⟨v0, br_f (by rw [c1, e1]; exact Int32.not_lt.mpr a) (YN _ ⟨rfl, F⟩ (Or.inr a))⟩
    · have hl : mr_lv st p := Classical.byContradiction (fun z => by
        have := e4 z
        omega)
      have v4 : vp_in (nI (p * 9 + i)) 144 := vp_in_nI (by omega) (by omega)
      have c4 : (nI (p * 9 + i)).toNatClampNeg = p * 9 + i := nI_clamp (by omega)
      have d1 := g1 p i (by omega) hi
      have d2 := g2 p i (by omega) hi
      have d3 := g3 p i (by omega) hi
      rw [if_neg (by omega), Nat.add_zero] at d1 d2 d3
      refine br_f (nI_pos (by omega)) ⟨v0, br_t (by rw [c1, e1]; exact nI_lt hi (by omega)) (nm_r mr_yc ?_)⟩
      have YY : ∀ (post : Int32 → Prop) (q : Int32), post q → (v3 = 0 → qi (p * 9 + i) = q) → (v3 = 1 → qk (p * 9 + i) = q) → (v3 = 2 → qp (p * 9 + i) = q) → (¬ v3 = 0 → ¬ v3 = 1 → ¬ v3 = 2 → q = -1) → wpY_queueAt post (nI T, nI P, nI N, nI Q, nI al, ic, rc 0, rc 1, rc 2, rc 3, ty, dy, st, S, O, ar, qi, qk, qp, ly, wl) (nI p) (nI i) v3 := by
        intro post q hq w0 w1 w2 w3
        unfold wpY_queueAt
        refine ym_live1 hp b3 hl (br_f mr_10 (br_f (nI_pos (by omega)) ⟨v0, br_f (by rw [c1, e2]; exact nI_ge hi (by omega)) (br_t (nI_lt (b := 9) (by omega) (by omega)) (nm_r mr_yc ?_))⟩))
        by_cases z0 : v3 = 0
        · refine br_t z0 ⟨v4, ?_⟩
          rw [c4, w0 z0]
          exact hq
        · by_cases z1 : v3 = 1
          · refine br_f z0 (br_t z1 ⟨v4, ?_⟩)
            rw [c4, w1 z1]
            exact hq
          · by_cases z2 : v3 = 2
            · refine br_f z0 (br_f z1 (br_t z2 ⟨v4, ?_⟩))
              rw [c4, w2 z2]
              exact hq
            · rw [w3 z0 z1 z2] at hq
              exact br_f z0 (br_f z1 (br_f z2 hq))
      by_cases z0 : v3 = 0
      · subst z0
        refine br_f (by decide) (br_f (by decide) (br_t rfl ⟨v4, ?_⟩))
        rw [c4]
        exact YY _ (mi (p * 9 + i)) ⟨rfl, F⟩ (fun _ => d1.symm) (fun a => absurd a (by decide)) (fun a => absurd a (by decide)) (fun a _ _ => absurd rfl a)
      · by_cases z1 : v3 = 1
        · subst z1
          refine br_f (by decide) (br_f (by decide) (br_f (by decide) (br_t rfl ⟨v4, ?_⟩)))
          rw [c4]
          exact YY _ (mk (p * 9 + i)) ⟨rfl, F⟩ (fun a => absurd a (by decide)) (fun _ => d2.symm) (fun a => absurd a (by decide)) (fun _ a _ => absurd rfl a)
        · by_cases z2 : v3 = 2
          · subst z2
            refine br_f (by decide) (br_f (by decide) (br_f (by decide) (br_f (by decide) (br_t rfl ⟨v4, ?_⟩))))
            rw [c4]
            exact YY _ (mp (p * 9 + i)) ⟨rfl, F⟩ (fun a => absurd a (by decide)) (fun a => absurd a (by decide)) (fun _ => d3.symm) (fun _ _ a => absurd rfl a)
          · have E := YY (fun r' => r' = -1 ∧ i_Rel (k + 5) (nI T, nI P, nI N, nI Q, dc, nI al, ic, tx, dx, st, S, O, ar, lx, h, mi, mk, mp, wl, rc) (nI T, nI P, nI N, nI Q, nI al, ic, rc 0, rc 1, rc 2, rc 3, ty, dy, st, S, O, ar, qi, qk, qp, ly, wl)) (-1) ⟨rfl, F⟩ (fun a => absurd a z0) (fun a => absurd a z1) (fun a => absurd a z2) (fun _ _ _ => rfl)
            by_cases a1 : v3 < 0
            · exact br_t a1 E
            · by_cases a2 : 2 < v3
              · exact br_f a1 (br_t a2 E)
              · exact br_f a1 (br_f a2 (br_f z0 (br_f z1 (br_f z2 True.intro))))
theorem i_vc_lastReceived {k : Nat} {u : SX} {v : SY} (I : i_Rel k u v) (hk : k + 5 ≤ 2564) (v1 : Int32) : wpX_lastReceived (fun r => wpY_lastReceived (fun r' => r' = r ∧ i_Rel (k + 5) u v) v v1) u v1 := by
  obtain ⟨T, P, N, Q, al, l, dc, ic, tx, dx, st, S, O, ar, lx, h, mi, mk, mp, wl, rc, ty, dy, qi, qk, qp, ly, rfl, rfl, hR⟩ := I
  obtain ⟨b1, b2, b3, b4, b5, b6⟩ := mr_Rb hR
  have F := mr_fin (kk := k + 5) (dc := dc) (ic := ic) (wl := wl) (rc := rc) hR rfl rfl rfl rfl
  unfold wpX_lastReceived
  have YN : (v1 < 0 ∨ 4 ≤ v1) → ∀ post : Int32 → Prop, post (-1) → wpY_lastReceived post (nI T, nI P, nI N, nI Q, nI al, ic, rc 0, rc 1, rc 2, rc 3, ty, dy, st, S, O, ar, qi, qk, qp, ly, wl) v1 := by
    intro hy post hq
    unfold wpY_lastReceived
    refine br_f (fun z => ?_) (br_f (fun z => ?_) (br_f (fun z => ?_) (br_f (fun z => ?_) hq)))
    · rw [z] at hy
      exact absurd hy (by decide)
    · rw [z] at hy
      exact absurd hy (by decide)
    · rw [z] at hy
      exact absurd hy (by decide)
    · rw [z] at hy
      exact absurd hy (by decide)
  by_cases a1 : v1 < 0
  · exact br_t a1 (YN (Or.inl a1) _ ⟨rfl, F⟩)
  · by_cases a2 : v1 < 4
    · refine br_f a1 (br_t a2 ?_)
      obtain ⟨j, hj, rfl⟩ := nI_of a1
      have j4 : j < 4 := (nI_ltI (b := 4) hj (by omega)).mp a2
      refine ⟨vp_in_nI j4 (by omega), ?_⟩
      rw [nI_clamp hj]
      unfold wpY_lastReceived
      rcases (show j = 0 ∨ j = 1 ∨ j = 2 ∨ j = 3 by omega) with rfl | rfl | rfl | rfl
      · exact br_t (by decide) ⟨rfl, F⟩
      · exact br_f (by decide) (br_t (by decide) ⟨rfl, F⟩)
      · exact br_f (by decide) (br_f (by decide) (br_t (by decide) ⟨rfl, F⟩))
      · exact br_f (by decide) (br_f (by decide) (br_f (by decide) (br_t (by decide) ⟨rfl, F⟩)))
    · exact br_f a1 (br_f a2 (YN (Or.inr (Int32.not_lt.mp a2)) _ ⟨rfl, F⟩))
end
section
/-! refusals for want of a task, a name, a receive right -/
section
variable {W W' : Nat → Prop} {e off T P N Q al p n t m x c D : Nat} {l : Nat → Nat} {dc ic r0 r1 r2 r3 : Int32} {tx dx st S O ar lx h mi mk mp wl rc ty dy qi qk qp ly : Nat → Int32} {v w i k z : Int32}
theorem xm_giveSendT {post : Int32 → SX → Prop} {y y2 : Int32} {y3 : Int32} (hy : y < 0 ∨ nI T ≤ y) (hp : post (-1) (nI T, nI P, nI N, nI Q, dc, nI al, ic, tx, dx, st, S, O, ar, lx, h, mi, mk, mp, wl, rc)) : wpX_giveSend post (nI T, nI P, nI N, nI Q, dc, nI al, ic, tx, dx, st, S, O, ar, lx, h, mi, mk, mp, wl, rc) y y2 y3 := by
  unfold wpX_giveSend
  exact xm_rrT hy (br_f (by decide) hp)
theorem xm_giveSendN {post : Int32 → SX → Prop} {y2 : Int32} {y3 : Int32} (ht : t < T) (hT : T ≤ 4) (hy : y2 < 1 ∨ nI N < y2) (hp : post (-2) (nI T, nI P, nI N, nI Q, dc, nI al, ic, tx, dx, st, S, O, ar, lx, h, mi, mk, mp, wl, rc)) : wpX_giveSend post (nI T, nI P, nI N, nI Q, dc, nI al, ic, tx, dx, st, S, O, ar, lx, h, mi, mk, mp, wl, rc) (nI t) y2 y3 := by
  unfold wpX_giveSend
  exact xm_rrN ht hT hy (br_f (by decide) hp)
theorem xm_giveSendF {post : Int32 → SX → Prop} {y3 : Int32} (ht : t < T) (hT : T ≤ 4) (hm : m < N) (hN : N ≤ 8) (h0 : tx (t * 8 + m) &&& 1 = 0) (hp : post (-2) (nI T, nI P, nI N, nI Q, dc, nI al, ic, tx, dx, st, S, O, ar, lx, h, mi, mk, mp, wl, rc)) : wpX_giveSend post (nI T, nI P, nI N, nI Q, dc, nI al, ic, tx, dx, st, S, O, ar, lx, h, mi, mk, mp, wl, rc) (nI t) (nI (m + 1)) y3 := by
  unfold wpX_giveSend
  exact xm_rrF ht hT hm hN h0 (br_f (by decide) hp)
theorem ym_giveSendT {post : Int32 → SY → Prop} {y y2 : Int32} {y3 : Int32} (hy : y < 0 ∨ nI T ≤ y) (hp : post (-1) (nI T, nI P, nI N, nI Q, nI al, ic, r0, r1, r2, r3, ty, dy, st, S, O, ar, qi, qk, qp, ly, wl)) : wpY_giveSend post (nI T, nI P, nI N, nI Q, nI al, ic, r0, r1, r2, r3, ty, dy, st, S, O, ar, qi, qk, qp, ly, wl) y y2 y3 := by
  unfold wpY_giveSend
  exact ym_task0 hy (br_t rfl hp)
theorem ym_giveSendN {post : Int32 → SY → Prop} {y2 : Int32} {y3 : Int32} (ht : t < T) (hT : T ≤ 4) (hy : y2 < 1 ∨ nI N < y2) (hp : post (-2) (nI T, nI P, nI N, nI Q, nI al, ic, r0, r1, r2, r3, ty, dy, st, S, O, ar, qi, qk, qp, ly, wl)) : wpY_giveSend post (nI T, nI P, nI N, nI Q, nI al, ic, r0, r1, r2, r3, ty, dy, st, S, O, ar, qi, qk, qp, ly, wl) (nI t) y2 y3 := by
  unfold wpY_giveSend
  refine ym_task1 ht hT (br_f mr_10 ?_)
  exact ym_name0 hy (br_t rfl hp)
theorem ym_giveSendF {post : Int32 → SY → Prop} {y3 : Int32} (ht : t < T) (hT : T ≤ 4) (hm : m < N) (hN : N ≤ 8) (h0 : ty (t * 9 + (m + 1)) &&& 1 = 0) (hp : post (-2) (nI T, nI P, nI N, nI Q, nI al, ic, r0, r1, r2, r3, ty, dy, st, S, O, ar, qi, qk, qp, ly, wl)) : wpY_giveSend post (nI T, nI P, nI N, nI Q, nI al, ic, r0, r1, r2, r3, ty, dy, st, S, O, ar, qi, qk, qp, ly, wl) (nI t) (nI (m + 1)) y3 := by
  unfold wpY_giveSend
  refine ym_task1 ht hT (br_f mr_10 ?_)
  refine ym_name1 hm hN (br_f mr_10 ⟨mr_yv (by omega) (by omega), br_t ?_ hp⟩)
  rw [mr_ycl (by omega) (by omega)]
  exact h0
theorem xm_receiveT {post : Int32 → SX → Prop} {y y2 : Int32} (hy : y < 0 ∨ nI T ≤ y) (hp : post (-1) (nI T, nI P, nI N, nI Q, dc, nI al, ic, tx, dx, st, S, O, ar, lx, h, mi, mk, mp, wl, rc)) : wpX_receive post (nI T, nI P, nI N, nI Q, dc, nI al, ic, tx, dx, st, S, O, ar, lx, h, mi, mk, mp, wl, rc) y y2 := by
  unfold wpX_receive
  exact xm_rrT hy (br_f (by decide) hp)
theorem xm_receiveN {post : Int32 → SX → Prop} {y2 : Int32} (ht : t < T) (hT : T ≤ 4) (hy : y2 < 1 ∨ nI N < y2) (hp : post (-2) (nI T, nI P, nI N, nI Q, dc, nI al, ic, tx, dx, st, S, O, ar, lx, h, mi, mk, mp, wl, rc)) : wpX_receive post (nI T, nI P, nI N, nI Q, dc, nI al, ic, tx, dx, st, S, O, ar, lx, h, mi, mk, mp, wl, rc) (nI t) y2 := by
  unfold wpX_receive
  exact xm_rrN ht hT hy (br_f (by decide) hp)
theorem xm_receiveF {post : Int32 → SX → Prop} (ht : t < T) (hT : T ≤ 4) (hm : m < N) (hN : N ≤ 8) (h0 : tx (t * 8 + m) &&& 1 = 0) (hp : post (-2) (nI T, nI P, nI N, nI Q, dc, nI al, ic, tx, dx, st, S, O, ar, lx, h, mi, mk, mp, wl, rc)) : wpX_receive post (nI T, nI P, nI N, nI Q, dc, nI al, ic, tx, dx, st, S, O, ar, lx, h, mi, mk, mp, wl, rc) (nI t) (nI (m + 1)) := by
  unfold wpX_receive
  exact xm_rrF ht hT hm hN h0 (br_f (by decide) hp)
theorem ym_receiveT {post : Int32 → SY → Prop} {y y2 : Int32} (hy : y < 0 ∨ nI T ≤ y) (hp : post (-1) (nI T, nI P, nI N, nI Q, nI al, ic, r0, r1, r2, r3, ty, dy, st, S, O, ar, qi, qk, qp, ly, wl)) : wpY_receive post (nI T, nI P, nI N, nI Q, nI al, ic, r0, r1, r2, r3, ty, dy, st, S, O, ar, qi, qk, qp, ly, wl) y y2 := by
  unfold wpY_receive
  exact ym_task0 hy (br_t rfl hp)
theorem ym_receiveN {post : Int32 → SY → Prop} {y2 : Int32} (ht : t < T) (hT : T ≤ 4) (hy : y2 < 1 ∨ nI N < y2) (hp : post (-2) (nI T, nI P, nI N, nI Q, nI al, ic, r0, r1, r2, r3, ty, dy, st, S, O, ar, qi, qk, qp, ly, wl)) : wpY_receive post (nI T, nI P, nI N, nI Q, nI al, ic, r0, r1, r2, r3, ty, dy, st, S, O, ar, qi, qk, qp, ly, wl) (nI t) y2 := by
  unfold wpY_receive
  refine ym_task1 ht hT (br_f mr_10 ?_)
  exact ym_name0 hy (br_t rfl hp)
theorem ym_receiveF {post : Int32 → SY → Prop} (ht : t < T) (hT : T ≤ 4) (hm : m < N) (hN : N ≤ 8) (h0 : ty (t * 9 + (m + 1)) &&& 1 = 0) (hp : post (-2) (nI T, nI P, nI N, nI Q, nI al, ic, r0, r1, r2, r3, ty, dy, st, S, O, ar, qi, qk, qp, ly, wl)) : wpY_receive post (nI T, nI P, nI N, nI Q, nI al, ic, r0, r1, r2, r3, ty, dy, st, S, O, ar, qi, qk, qp, ly, wl) (nI t) (nI (m + 1)) := by
  unfold wpY_receive
  refine ym_task1 ht hT (br_f mr_10 ?_)
  refine ym_name1 hm hN (br_f mr_10 ⟨mr_yv (by omega) (by omega), br_t ?_ hp⟩)
  rw [mr_ycl (by omega) (by omega)]
  exact h0
theorem xm_destroyReceiveT {post : Int32 → SX → Prop} {y y2 : Int32} (hy : y < 0 ∨ nI T ≤ y) (hp : post (-1) (nI T, nI P, nI N, nI Q, dc, nI al, ic, tx, dx, st, S, O, ar, lx, h, mi, mk, mp, wl, rc)) : wpX_destroyReceive post (nI T, nI P, nI N, nI Q, dc, nI al, ic, tx, dx, st, S, O, ar, lx, h, mi, mk, mp, wl, rc) y y2 := by
  unfold wpX_destroyReceive
  exact xm_rrT hy (br_f (by decide) hp)
theorem xm_destroyReceiveN {post : Int32 → SX → Prop} {y2 : Int32} (ht : t < T) (hT : T ≤ 4) (hy : y2 < 1 ∨ nI N < y2) (hp : post (-2) (nI T, nI P, nI N, nI Q, dc, nI al, ic, tx, dx, st, S, O, ar, lx, h, mi, mk, mp, wl, rc)) : wpX_destroyReceive post (nI T, nI P, nI N, nI Q, dc, nI al, ic, tx, dx, st, S, O, ar, lx, h, mi, mk, mp, wl, rc) (nI t) y2 := by
  unfold wpX_destroyReceive
  exact xm_rrN ht hT hy (br_f (by decide) hp)
theorem xm_destroyReceiveF {post : Int32 → SX → Prop} (ht : t < T) (hT : T ≤ 4) (hm : m < N) (hN : N ≤ 8) (h0 : tx (t * 8 + m) &&& 1 = 0) (hp : post (-2) (nI T, nI P, nI N, nI Q, dc, nI al, ic, tx, dx, st, S, O, ar, lx, h, mi, mk, mp, wl, rc)) : wpX_destroyReceive post (nI T, nI P, nI N, nI Q, dc, nI al, ic, tx, dx, st, S, O, ar, lx, h, mi, mk, mp, wl, rc) (nI t) (nI (m + 1)) := by
  unfold wpX_destroyReceive
  exact xm_rrF ht hT hm hN h0 (br_f (by decide) hp)
theorem ym_destroyReceiveT {post : Int32 → SY → Prop} {y y2 : Int32} (hy : y < 0 ∨ nI T ≤ y) (hp : post (-1) (nI T, nI P, nI N, nI Q, nI al, ic, r0, r1, r2, r3, ty, dy, st, S, O, ar, qi, qk, qp, ly, wl)) : wpY_destroyReceive post (nI T, nI P, nI N, nI Q, nI al, ic, r0, r1, r2, r3, ty, dy, st, S, O, ar, qi, qk, qp, ly, wl) y y2 := by
  unfold wpY_destroyReceive
  exact ym_task0 hy (br_t rfl hp)
theorem ym_destroyReceiveN {post : Int32 → SY → Prop} {y2 : Int32} (ht : t < T) (hT : T ≤ 4) (hy : y2 < 1 ∨ nI N < y2) (hp : post (-2) (nI T, nI P, nI N, nI Q, nI al, ic, r0, r1, r2, r3, ty, dy, st, S, O, ar, qi, qk, qp, ly, wl)) : wpY_destroyReceive post (nI T, nI P, nI N, nI Q, nI al, ic, r0, r1, r2, r3, ty, dy, st, S, O, ar, qi, qk, qp, ly, wl) (nI t) y2 := by
  unfold wpY_destroyReceive
  refine ym_task1 ht hT (br_f mr_10 ?_)
  exact ym_name0 hy (br_t rfl hp)
theorem ym_destroyReceiveF {post : Int32 → SY → Prop} (ht : t < T) (hT : T ≤ 4) (hm : m < N) (hN : N ≤ 8) (h0 : ty (t * 9 + (m + 1)) &&& 1 = 0) (hp : post (-2) (nI T, nI P, nI N, nI Q, nI al, ic, r0, r1, r2, r3, ty, dy, st, S, O, ar, qi, qk, qp, ly, wl)) : wpY_destroyReceive post (nI T, nI P, nI N, nI Q, nI al, ic, r0, r1, r2, r3, ty, dy, st, S, O, ar, qi, qk, qp, ly, wl) (nI t) (nI (m + 1)) := by
  unfold wpY_destroyReceive
  refine ym_task1 ht hT (br_f mr_10 ?_)
  refine ym_name1 hm hN (br_f mr_10 ⟨mr_yv (by omega) (by omega), br_t ?_ hp⟩)
  rw [mr_ycl (by omega) (by omega)]
  exact h0
theorem xm_requestNoSendersT {post : Int32 → SX → Prop} {y y2 : Int32} (hy : y < 0 ∨ nI T ≤ y) (hp : post (-1) (nI T, nI P, nI N, nI Q, dc, nI al, ic, tx, dx, st, S, O, ar, lx, h, mi, mk, mp, wl, rc)) : wpX_requestNoSenders post (nI T, nI P, nI N, nI Q, dc, nI al, ic, tx, dx, st, S, O, ar, lx, h, mi, mk, mp, wl, rc) y y2 := by
  unfold wpX_requestNoSenders
  exact xm_rrT hy (br_f (by decide) hp)
theorem xm_requestNoSendersN {post : Int32 → SX → Prop} {y2 : Int32} (ht : t < T) (hT : T ≤ 4) (hy : y2 < 1 ∨ nI N < y2) (hp : post (-2) (nI T, nI P, nI N, nI Q, dc, nI al, ic, tx, dx, st, S, O, ar, lx, h, mi, mk, mp, wl, rc)) : wpX_requestNoSenders post (nI T, nI P, nI N, nI Q, dc, nI al, ic, tx, dx, st, S, O, ar, lx, h, mi, mk, mp, wl, rc) (nI t) y2 := by
  unfold wpX_requestNoSenders
  exact xm_rrN ht hT hy (br_f (by decide) hp)
theorem xm_requestNoSendersF {post : Int32 → SX → Prop} (ht : t < T) (hT : T ≤ 4) (hm : m < N) (hN : N ≤ 8) (h0 : tx (t * 8 + m) &&& 1 = 0) (hp : post (-2) (nI T, nI P, nI N, nI Q, dc, nI al, ic, tx, dx, st, S, O, ar, lx, h, mi, mk, mp, wl, rc)) : wpX_requestNoSenders post (nI T, nI P, nI N, nI Q, dc, nI al, ic, tx, dx, st, S, O, ar, lx, h, mi, mk, mp, wl, rc) (nI t) (nI (m + 1)) := by
  unfold wpX_requestNoSenders
  exact xm_rrF ht hT hm hN h0 (br_f (by decide) hp)
theorem ym_requestNoSendersT {post : Int32 → SY → Prop} {y y2 : Int32} (hy : y < 0 ∨ nI T ≤ y) (hp : post (-1) (nI T, nI P, nI N, nI Q, nI al, ic, r0, r1, r2, r3, ty, dy, st, S, O, ar, qi, qk, qp, ly, wl)) : wpY_requestNoSenders post (nI T, nI P, nI N, nI Q, nI al, ic, r0, r1, r2, r3, ty, dy, st, S, O, ar, qi, qk, qp, ly, wl) y y2 := by
  unfold wpY_requestNoSenders
  exact ym_task0 hy (br_t rfl hp)
theorem ym_requestNoSendersN {post : Int32 → SY → Prop} {y2 : Int32} (ht : t < T) (hT : T ≤ 4) (hy : y2 < 1 ∨ nI N < y2) (hp : post (-2) (nI T, nI P, nI N, nI Q, nI al, ic, r0, r1, r2, r3, ty, dy, st, S, O, ar, qi, qk, qp, ly, wl)) : wpY_requestNoSenders post (nI T, nI P, nI N, nI Q, nI al, ic, r0, r1, r2, r3, ty, dy, st, S, O, ar, qi, qk, qp, ly, wl) (nI t) y2 := by
  unfold wpY_requestNoSenders
  refine ym_task1 ht hT (br_f mr_10 ?_)
  exact ym_name0 hy (br_t rfl hp)
theorem ym_requestNoSendersF {post : Int32 → SY → Prop} (ht : t < T) (hT : T ≤ 4) (hm : m < N) (hN : N ≤ 8) (h0 : ty (t * 9 + (m + 1)) &&& 1 = 0) (hp : post (-2) (nI T, nI P, nI N, nI Q, nI al, ic, r0, r1, r2, r3, ty, dy, st, S, O, ar, qi, qk, qp, ly, wl)) : wpY_requestNoSenders post (nI T, nI P, nI N, nI Q, nI al, ic, r0, r1, r2, r3, ty, dy, st, S, O, ar, qi, qk, qp, ly, wl) (nI t) (nI (m + 1)) := by
  unfold wpY_requestNoSenders
  refine ym_task1 ht hT (br_f mr_10 ?_)
  refine ym_name1 hm hN (br_f mr_10 ⟨mr_yv (by omega) (by omega), br_t ?_ hp⟩)
  rw [mr_ycl (by omega) (by omega)]
  exact h0
end
end
section
/-! allocate -/
section
variable {W W' : Nat → Prop} {e off T P N Q al p n t m x c D : Nat} {l : Nat → Nat} {dc ic r0 r1 r2 r3 : Int32} {tx dx st S O ar lx h mi mk mp wl rc ty dy qi qk qp ly : Nat → Int32} {v w i k z : Int32}
theorem xm_alT {post : Int32 → SX → Prop} {y : Int32} (hy : y < 0 ∨ nI T ≤ y) (hp : post (-1) (nI T, nI P, nI N, nI Q, dc, nI al, ic, tx, dx, st, S, O, ar, lx, h, mi, mk, mp, wl, rc)) : wpX_allocate post (nI T, nI P, nI N, nI Q, dc, nI al, ic, tx, dx, st, S, O, ar, lx, h, mi, mk, mp, wl, rc) y := by
  unfold wpX_allocate
  exact xm_task0 hy (br_t rfl hp)
theorem xm_alP {post : Int32 → SX → Prop} (ht : t < T) (hT : T ≤ 4) (ha : P ≤ al) (hal : al ≤ 16) (hp : post (-4) (nI T, nI P, nI N, nI Q, dc, nI al, ic, tx, dx, st, S, O, ar, lx, h, mi, mk, mp, wl, rc)) : wpX_allocate post (nI T, nI P, nI N, nI Q, dc, nI al, ic, tx, dx, st, S, O, ar, lx, h, mi, mk, mp, wl, rc) (nI t) := by
  unfold wpX_allocate
  exact xm_task1 ht hT (br_f mr_10 (br_f (nI_nlt ha (by omega)) hp))
theorem xm_alN {post : Int32 → SX → Prop} (ht : t < T) (hT : T ≤ 4) (hN : N ≤ 8) (ha : al < P) (hP : P ≤ 16) (hNN : mr_NN tx dx ty dy) (hr : mr_lst (fun n => ty (t * 9 + n) = 0) N 0) (hp : post (-4) (nI T, nI P, nI N, nI Q, dc, nI al, ic, tx, dx, st, S, O, ar, lx, h, mi, mk, mp, wl, rc)) : wpX_allocate post (nI T, nI P, nI N, nI Q, dc, nI al, ic, tx, dx, st, S, O, ar, lx, h, mi, mk, mp, wl, rc) (nI t) := by
  unfold wpX_allocate
  refine xm_task1 ht hT (br_f mr_10 (br_t (nI_lt ha (by omega)) ?_))
  exact xm_lf (by omega) hN hNN hr (br_t nI_0 hp)
theorem xm_al1 {post : Int32 → SX → Prop} (ht : t < T) (hT : T ≤ 4) (hN : N ≤ 8) (ha : al < P) (hP : P ≤ 16) (hNN : mr_NN tx dx ty dy) (hm : m < N) (hr : mr_lst (fun n => ty (t * 9 + n) = 0) N (m + 1)) (hp : post (nI (m + 1)) (nI T, nI P, nI N, nI Q, dc, nI (al + 1), ic, upd tx (t * 8 + m) 1, upd dx (t * 8 + m) (nI al), upd st al 1, S, O, ar, lx, h, mi, mk, mp, wl, rc)) : wpX_allocate post (nI T, nI P, nI N, nI Q, dc, nI al, ic, tx, dx, st, S, O, ar, lx, h, mi, mk, mp, wl, rc) (nI t) := by
  have c1 : (nI al).toNatClampNeg = al := nI_clamp (by omega)
  have v2 : vp_in (nI (t * 8 + m)) 32 := vp_in_nI (by omega) (by omega)
  have c2 : (nI (t * 8 + m)).toNatClampNeg = t * 8 + m := nI_clamp (by omega)
  unfold wpX_allocate
  refine xm_task1 ht hT (br_f mr_10 (br_t (nI_lt ha (by omega)) ?_))
  refine xm_lf (by omega) hN hNN hr (br_f (nI_ne0 (by omega) (by omega)) (nm_r (nI_1 al) ⟨vp_in_nI (by omega) (by omega), nm_r (e' := upd st al 1) (by rw [c1]) ?_⟩))
  exact xm_cell ⟨v2, nm_r (e' := upd tx (t * 8 + m) 1) (by rw [c2]) ⟨v2, nm_r (e' := upd dx (t * 8 + m) (nI al)) (by rw [c2]) hp⟩⟩
theorem ym_alT {post : Int32 → SY → Prop} {y : Int32} (hy : y < 0 ∨ nI T ≤ y) (hp : post (-1) (nI T, nI P, nI N, nI Q, nI al, ic, r0, r1, r2, r3, ty, dy, st, S, O, ar, qi, qk, qp, ly, wl)) : wpY_allocate post (nI T, nI P, nI N, nI Q, nI al, ic, r0, r1, r2, r3, ty, dy, st, S, O, ar, qi, qk, qp, ly, wl) y := by
  unfold wpY_allocate
  exact ym_task0 hy (br_t rfl hp)
theorem ym_alP {post : Int32 → SY → Prop} (ht : t < T) (hT : T ≤ 4) (ha : P ≤ al) (hal : al ≤ 16) (hp : post (-4) (nI T, nI P, nI N, nI Q, nI al, ic, r0, r1, r2, r3, ty, dy, st, S, O, ar, qi, qk, qp, ly, wl)) : wpY_allocate post (nI T, nI P, nI N, nI Q, nI al, ic, r0, r1, r2, r3, ty, dy, st, S, O, ar, qi, qk, qp, ly, wl) (nI t) := by
  unfold wpY_allocate
  exact ym_task1 ht hT (br_f mr_10 (br_f (nI_nlt ha (by omega)) hp))
theorem ym_alN {post : Int32 → SY → Prop} (ht : t < T) (hT : T ≤ 4) (hN : N ≤ 8) (ha : al < P) (hP : P ≤ 16) (hr : mr_lst (fun n => ty (t * 9 + n) = 0) N 0) (hp : post (-4) (nI T, nI P, nI N, nI Q, nI al, ic, r0, r1, r2, r3, ty, dy, st, S, O, ar, qi, qk, qp, ly, wl)) : wpY_allocate post (nI T, nI P, nI N, nI Q, nI al, ic, r0, r1, r2, r3, ty, dy, st, S, O, ar, qi, qk, qp, ly, wl) (nI t) := by
  unfold wpY_allocate
  refine ym_task1 ht hT (br_f mr_10 (br_t (nI_lt ha (by omega)) ?_))
  exact ym_lf (by omega) hN hr (br_t nI_0 hp)
theorem ym_al1 {post : Int32 → SY → Prop} (ht : t < T) (hT : T ≤ 4) (hN : N ≤ 8) (ha : al < P) (hP : P ≤ 16) (hm : m < N) (hr : mr_lst (fun n => ty (t * 9 + n) = 0) N (m + 1)) (z1 : S al = 0) (z2 : O al = 0) (z3 : ar al = 0) (z4 : ly al = 0) (hp : post (nI (m + 1)) (nI T, nI P, nI N, nI Q, nI (al + 1), ic, r0, r1, r2, r3, upd ty (t * 9 + (m + 1)) 1, upd dy (t * 9 + (m + 1)) (nI al), upd st al 1, S, O, ar, qi, qk, qp, ly, wl)) : wpY_allocate post (nI T, nI P, nI N, nI Q, nI al, ic, r0, r1, r2, r3, ty, dy, st, S, O, ar, qi, qk, qp, ly, wl) (nI t) := by
  have c1 : (nI al).toNatClampNeg = al := nI_clamp (by omega)
  have v1 : vp_in (nI al) 16 := vp_in_nI (by omega) (by omega)
  have v2 := mr_yv (t := t) (n := m + 1) (by omega) (by omega)
  have c2 := mr_ycl (t := t) (n := m + 1) (by omega) (by omega)
  unfold wpY_allocate
  refine ym_task1 ht hT (br_f mr_10 (br_t (nI_lt ha (by omega)) ?_))
  refine ym_lf (by omega) hN hr (br_f (nI_ne0 (by omega) (by omega)) (nm_r (nI_1 al) ⟨v1, nm_r (e' := upd st al 1) (by rw [c1]) ⟨v1, nm_r (e' := S) (by rw [c1, mr_ui z1]) ⟨v1, nm_r (e' := O) (by rw [c1, mr_ui z2]) ⟨v1, nm_r (e' := ar) (by rw [c1, mr_nb0, mr_ui z3]) ⟨v1, nm_r (e' := ly) (by rw [c1, mr_ui z4]) ?_⟩⟩⟩⟩⟩))
  exact ⟨v2, nm_r (e' := upd ty (t * 9 + (m + 1)) 1) (by rw [c2]) ⟨v2, nm_r (e' := upd dy (t * 9 + (m + 1)) (nI al)) (by rw [c2]) hp⟩⟩
end
theorem i_vc_allocate {k : Nat} {u : SX} {v : SY} (I : i_Rel k u v) (hk : k + 5 ≤ 2564) (v1 : Int32) : wpX_allocate (fun r u' => wpY_allocate (fun r' v' => r' = r ∧ i_Rel (k + 5) u' v') v v1) u v1 := by
  obtain ⟨T, P, N, Q, al, l, dc, ic, tx, dx, st, S, O, ar, lx, h, mi, mk, mp, wl, rc, ty, dy, qi, qk, qp, ly, rfl, rfl, hR⟩ := I
  obtain ⟨b1, b2, b3, b4, b5, b6⟩ := mr_Rb hR
  have F := mr_fin (kk := k + 5) (dc := dc) (ic := ic) (wl := wl) (rc := rc) hR rfl rfl rfl rfl
  rcases mr_tk (T := T) v1 (by omega) with hy | ⟨t, ht, rfl⟩
  · exact xm_alT hy (ym_alT hy ⟨rfl, F⟩)
  by_cases ha : al < P
  · obtain ⟨r, hr⟩ := mr_lstE (fun n => ty (t * 9 + n) = 0) N
    rcases mr_lstL hr with rfl | ⟨m, hm, rfl, hz⟩
    · exact xm_alN ht b1 b4 ha b3 hR.2.1 hr (ym_alN ht b1 b4 ha b3 hr ⟨rfl, F⟩)
    · have hI := hR.2.2.2.2.2.2.2.2
      have s0 := (hI.2.2.1 al (by omega)).1 (Nat.le_refl _)
      have nl : ¬ mr_lv st al := by
        unfold mr_lv
        rw [s0]
        decide
      obtain ⟨z1, z2, z3⟩ := (hI.2.2.1 al (by omega)).2.1 nl
      obtain ⟨e1, e2, e3, e4⟩ := mr_lxy hR (p := al) (by omega)
      have z4 : ly al = 0 := by
        rw [e2, e4 nl]
        exact nI_0
      exact xm_al1 ht b1 b4 ha b3 hR.2.1 hm hr (ym_al1 ht b1 b4 ha b3 hm hr z1 z2 z3 z4 ⟨rfl, mr_fin (mr_Rnew hR ha ht hm) rfl rfl rfl rfl⟩)
  · exact xm_alP ht b1 (by omega) (by omega) (ym_alP ht b1 (by omega) (by omega) ⟨rfl, F⟩)
end
section
/-! requestNoSenders -/
section
variable {W W' : Nat → Prop} {e off T P N Q al p n t m x c D : Nat} {l : Nat → Nat} {dc ic r0 r1 r2 r3 : Int32} {tx dx st S O ar lx h mi mk mp wl rc ty dy qi qk qp ly : Nat → Int32} {v w i k z : Int32}
theorem xm_rq {post : Int32 → SX → Prop} (ht : t < T) (hT : T ≤ 4) (hm : m < N) (hN : N ≤ 8) (h0 : ¬ tx (t * 8 + m) &&& 1 = 0) (hd : dx (t * 8 + m) = nI p) (h16 : p < 16) (h9 : n ≤ 9) (hl : lx p = nI n) (hA : ¬ ar p = 0 → post (-7) (nI T, nI P, nI N, nI Q, dc, nI al, ic, tx, dx, st, S, O, ar, lx, h, mi, mk, mp, wl, rc)) (hH : ar p = 0 → (∃ i, i < n ∧ mk (p * 9 + i) = 4) → post (-7) (nI T, nI P, nI N, nI Q, dc, nI al, ic, tx, dx, st, S, O, ar, lx, h, mi, mk, mp, wl, rc)) (hS : ar p = 0 → (∀ i, i < n → ¬ mk (p * 9 + i) = 4) → S p = 0 → n ≤ 8 ∧ post (ic + 1) (nI T, nI P, nI N, nI Q, dc, nI al, ic + 1, tx, dx, st, S, O, ar, upd lx p (nI (n + 1)), h, upd mi (p * 9 + n) (ic + 1), upd mk (p * 9 + n) 4, upd mp (p * 9 + n) (-1), wl, rc)) (hO : ar p = 0 → (∀ i, i < n → ¬ mk (p * 9 + i) = 4) → ¬ S p = 0 → post 0 (nI T, nI P, nI N, nI Q, dc, nI al, ic, tx, dx, st, S, O, upd ar p 1, lx, h, mi, mk, mp, wl, rc)) : wpX_requestNoSenders post (nI T, nI P, nI N, nI Q, dc, nI al, ic, tx, dx, st, S, O, ar, lx, h, mi, mk, mp, wl, rc) (nI t) (nI (m + 1)) := by
  have v1 : vp_in (nI p) 16 := vp_in_nI h16 (by omega)
  have c1 : (nI p).toNatClampNeg = p := nI_clamp (by omega)
  unfold wpX_requestNoSenders
  refine xm_rr0 ht hT hm hN h0 (br_t rfl ?_)
  refine xm_cell ⟨vp_in_nI (by omega) (by omega), nm_r (e' := nI p) (by rw [nI_clamp (by omega)]; exact hd) ⟨v1, ?_⟩⟩
  by_cases z : ar p = 0
  · refine br_t (by rw [c1]; exact z) (xm_hn h16 h9 hl (fun a => br_f mr_10 (hH z a)) (fun a => br_t rfl ⟨v1, ?_⟩))
    by_cases z2 : S p = 0
    · obtain ⟨n8, hp⟩ := hS z a z2
      exact br_t (by rw [c1]; exact z2) (xm_append h16 n8 hl hp)
    · exact br_f (by rw [c1]; exact z2) ⟨v1, nm_r (e' := upd ar p 1) (by rw [c1, mr_nb1]) (hO z a z2)⟩
  · exact br_f (by rw [c1]; exact z) (hA z)
theorem ym_rq {post : Int32 → SY → Prop} (ht : t < T) (hT : T ≤ 4) (hm : m < N) (hN : N ≤ 8) (h0 : ¬ ty (t * 9 + (m + 1)) &&& 1 = 0) (hd : dy (t * 9 + (m + 1)) = nI p) (hp : p < P) (hP : P ≤ 16) (h9 : n ≤ 9) (hl : ly p = nI n) (hA : ¬ ar p = 0 → post (-7) (nI T, nI P, nI N, nI Q, nI al, ic, r0, r1, r2, r3, ty, dy, st, S, O, ar, qi, qk, qp, ly, wl)) (hH : ar p = 0 → (∃ i, i < n ∧ qk (p * 9 + i) = 4) → post (-7) (nI T, nI P, nI N, nI Q, nI al, ic, r0, r1, r2, r3, ty, dy, st, S, O, ar, qi, qk, qp, ly, wl)) (hS : ar p = 0 → (∀ i, i < n → ¬ qk (p * 9 + i) = 4) → S p = 0 → n ≤ 8 ∧ post (ic + 1) (nI T, nI P, nI N, nI Q, nI al, ic + 1, r0, r1, r2, r3, ty, dy, st, S, O, ar, upd qi (p * 9 + n) (ic + 1), upd qk (p * 9 + n) 4, upd qp (p * 9 + n) (-1), upd ly p (nI (n + 1)), wl)) (hO : ar p = 0 → (∀ i, i < n → ¬ qk (p * 9 + i) = 4) → ¬ S p = 0 → post 0 (nI T, nI P, nI N, nI Q, nI al, ic, r0, r1, r2, r3, ty, dy, st, S, O, upd ar p 1, qi, qk, qp, ly, wl)) : wpY_requestNoSenders post (nI T, nI P, nI N, nI Q, nI al, ic, r0, r1, r2, r3, ty, dy, st, S, O, ar, qi, qk, qp, ly, wl) (nI t) (nI (m + 1)) := by
  have v1 : vp_in (nI p) 16 := vp_in_nI (by omega) (by omega)
  have c1 : (nI p).toNatClampNeg = p := nI_clamp (by omega)
  have v2 := mr_yv (t := t) (n := m + 1) (by omega) (by omega)
  have c2 := mr_ycl (t := t) (n := m + 1) (by omega) (by omega)
  unfold wpY_requestNoSenders
  refine ym_task1 ht hT (br_f mr_10 ?_)
  refine ym_name1 hm hN (br_f mr_10 ⟨v2, br_f (by rw [c2]; exact h0) ⟨v2, nm_r (e' := nI p) (by rw [c2]; exact hd) (br_f (nI_pos (by omega)) (br_t (nI_lt hp (by omega)) ⟨v1, ?_⟩))⟩⟩)
  by_cases z : ar p = 0
  · refine br_t (by rw [c1]; exact z) (ym_hn (by omega) h9 hl (fun a => br_f mr_10 (hH z a)) (fun a => br_t rfl ⟨v1, ?_⟩))
    by_cases z2 : S p = 0
    · obtain ⟨n8, hq⟩ := hS z a z2
      exact br_t (by rw [c1]; exact z2) (ym_append hp hP n8 hl hq)
    · exact br_f (by rw [c1]; exact z2) ⟨v1, nm_r (e' := upd ar p 1) (by rw [c1, mr_nb1]) (hO z a z2)⟩
  · exact br_f (by rw [c1]; exact z) (hA z)
/-- the queue's kinds are the same on both sides -/
theorem mr_gk (hR : mr_R (fun _ => False) 16 0 T P N Q al l tx dx st S O ar lx h mi mk mp ty dy qi qk qp ly) (hp : p < 16) : ∀ i, i < l p → mi (p * 9 + i) = qi (p * 9 + i) ∧ mk (p * 9 + i) = qk (p * 9 + i) ∧ mp (p * 9 + i) = qp (p * 9 + i) := by
  intro i hi
  have d1 := hR.2.2.2.2.1 p i hp hi
  have d2 := hR.2.2.2.2.2.1 p i hp hi
  have d3 := hR.2.2.2.2.2.2.1 p i hp hi
  rw [if_neg (by omega), Nat.add_zero] at d1 d2 d3
  exact ⟨d1, d2, d3⟩
end
theorem i_vc_requestNoSenders {k : Nat} {u : SX} {v : SY} (I : i_Rel k u v) (hk : k + 5 ≤ 2564) (v1 : Int32) (v2 : Int32) : wpX_requestNoSenders (fun r u' => wpY_requestNoSenders (fun r' v' => r' = r ∧ i_Rel (k + 5) u' v') v v1 v2) u v1 v2 := by
  obtain ⟨T, P, N, Q, al, l, dc, ic, tx, dx, st, S, O, ar, lx, h, mi, mk, mp, wl, rc, ty, dy, qi, qk, qp, ly, rfl, rfl, hR⟩ := I
  obtain ⟨b1, b2, b3, b4, b5, b6⟩ := mr_Rb hR
  have F := mr_fin (kk := k + 5) (dc := dc) (ic := ic) (wl := wl) (rc := rc) hR rfl rfl rfl rfl
  rcases mr_tk (T := T) v1 (by omega) with hy | ⟨t, ht, rfl⟩
  · exact xm_requestNoSendersT hy (ym_requestNoSendersT hy ⟨rfl, F⟩)
  rcases mr_nk (N := N) v2 b4 with hn | ⟨m, hm, rfl⟩
  · exact xm_requestNoSendersN ht b1 hn (ym_requestNoSendersN ht b1 hn ⟨rfl, F⟩)
  have hI := hR.2.2.2.2.2.2.2.2
  have nn := hR.2.1 t m (by omega) (by omega)
  have tk := mr_Ntok (c := t * 9 + (m + 1)) hI.1 (by omega)
  by_cases hr : ty (t * 9 + (m + 1)) &&& 1 = 0
  · exact xm_requestNoSendersF ht b1 hm b4 (by rw [nn.1]; exact hr) (ym_requestNoSendersF ht b1 hm b4 hr ⟨rfl, F⟩)
  · have hr' : ty (t * 9 + (m + 1)) = 1 ∨ ty (t * 9 + (m + 1)) = 3 := Classical.byContradiction (fun a => hr ((mr_a1 tk).mpr a))
    obtain ⟨p, hp, hd, hs⟩ := mr_Nr hI.1 (by omega) hr'
    have hl : mr_lv st p := Or.inl hs
    obtain ⟨e1, e2, e3, e4⟩ := mr_lxy hR (p := p) (by omega)
    have gk := mr_gk hR (p := p) (by omega)
    have X0 : ¬ tx (t * 8 + m) &&& 1 = 0 := by rw [nn.1]; exact hr
    refine xm_rq ht b1 hm b4 X0 (nn.2.trans hd) (by omega) e3 e1 (fun z => ?_) (fun z a => ?_) (fun z a s => ?_) (fun z a s => ?_)
    · exact ym_rq ht b1 hm b4 hr hd (by omega) b3 e3 e2 (fun _ => ⟨rfl, F⟩) (fun q => absurd q z) (fun q => absurd q z) (fun q => absurd q z)
    · obtain ⟨i, hi, h4⟩ := a
      have h4' : qk (p * 9 + i) = 4 := (gk i hi).2.1.symm.trans h4
      exact ym_rq ht b1 hm b4 hr hd (by omega) b3 e3 e2 (fun q => absurd z q) (fun _ _ => ⟨rfl, F⟩) (fun _ q => absurd h4' (q i hi)) (fun _ q => absurd h4' (q i hi))
    · have a' : ∀ i, i < l p → ¬ qk (p * 9 + i) = 4 := fun i hi q => a i hi ((gk i hi).2.1.trans q)
      obtain ⟨l8, r⟩ := mr_Rapp (i := ic + 1) (k := 4) (z := -1) hR (p := p) (by omega) (by omega) hl (Or.inl ⟨Or.inr rfl, rfl⟩) (Or.inl ⟨rfl, z, (mr_ocn a').symm⟩)
      have r' := mr_RW (W' := fun _ => False) r (fun x _ => ⟨fun w => w.1, fun w => absurd w not_false⟩)
      exact ⟨l8, ym_rq ht b1 hm b4 hr hd (by omega) b3 e3 e2 (fun q => absurd z q) (fun _ ⟨i, hi, q⟩ => absurd q (a' i hi)) (fun _ _ _ => ⟨l8, rfl, mr_fin r' rfl rfl rfl rfl⟩) (fun _ _ q => absurd s q)⟩
    · have a' : ∀ i, i < l p → ¬ qk (p * 9 + i) = 4 := fun i hi q => a i hi ((gk i hi).2.1.trans q)
      have r := mr_Ra (v := 1) hR hl (Or.inr rfl) (fun _ => (mr_ocn a').symm)
      exact ym_rq ht b1 hm b4 hr hd (by omega) b3 e3 e2 (fun q => absurd z q) (fun _ ⟨i, hi, q⟩ => absurd q (a' i hi)) (fun _ _ q => absurd q s) (fun _ _ _ => ⟨rfl, mr_fin r rfl rfl rfl rfl⟩)
end
section
/-! deallocate -/
section
variable {W W' : Nat → Prop} {e off T P N Q al p n t m x c D : Nat} {l : Nat → Nat} {dc ic r0 r1 r2 r3 : Int32} {tx dx st S O ar lx h mi mk mp wl rc ty dy qi qk qp ly : Nat → Int32} {v w i k z : Int32}
theorem xm_deT {post : Int32 → SX → Prop} {y y2 : Int32} (hy : y < 0 ∨ nI T ≤ y) (hp : post (-1) (nI T, nI P, nI N, nI Q, dc, nI al, ic, tx, dx, st, S, O, ar, lx, h, mi, mk, mp, wl, rc)) : wpX_deallocate post (nI T, nI P, nI N, nI Q, dc, nI al, ic, tx, dx, st, S, O, ar, lx, h, mi, mk, mp, wl, rc) y y2 := by
  unfold wpX_deallocate
  exact xm_task0 hy (br_t rfl hp)
theorem xm_deN {post : Int32 → SX → Prop} {y2 : Int32} (ht : t < T) (hT : T ≤ 4) (hy : y2 < 1 ∨ nI N < y2) (hp : post (-2) (nI T, nI P, nI N, nI Q, dc, nI al, ic, tx, dx, st, S, O, ar, lx, h, mi, mk, mp, wl, rc)) : wpX_deallocate post (nI T, nI P, nI N, nI Q, dc, nI al, ic, tx, dx, st, S, O, ar, lx, h, mi, mk, mp, wl, rc) (nI t) y2 := by
  unfold wpX_deallocate
  refine xm_task1 ht hT (br_f mr_10 ?_)
  exact xm_nt0 ht hT hy (br_t rfl hp)
theorem xm_de01 {post : Int32 → SX → Prop} (ht : t < T) (hT : T ≤ 4) (hm : m < N) (hN : N ≤ 8) (h0 : tx (t * 8 + m) = 0 ∨ tx (t * 8 + m) = 1) (hp : post (-2) (nI T, nI P, nI N, nI Q, dc, nI al, ic, tx, dx, st, S, O, ar, lx, h, mi, mk, mp, wl, rc)) : wpX_deallocate post (nI T, nI P, nI N, nI Q, dc, nI al, ic, tx, dx, st, S, O, ar, lx, h, mi, mk, mp, wl, rc) (nI t) (nI (m + 1)) := by
  unfold wpX_deallocate
  refine xm_task1 ht hT (br_f mr_10 ?_)
  refine xm_nt1 ht hT hm hN ?_
  by_cases z : tx (t * 8 + m) = 0
  · exact br_t z hp
  · exact br_f z (br_t (h0.resolve_left z) hp)
theorem xm_de2 {post : Int32 → SX → Prop} {u : SX} (ht : t < T) (hT : T ≤ 4) (hm : m < N) (hN : N ≤ 8) (h0 : tx (t * 8 + m) = 2) (hd : dx (t * 8 + m) = nI p) (hX : ∀ q : SX → Prop, q u → wpX_dropSend q (nI T, nI P, nI N, nI Q, dc, nI al, ic, upd tx (t * 8 + m) 0, upd dx (t * 8 + m) (-1), st, S, O, ar, lx, h, mi, mk, mp, wl, rc) (nI p)) (hp : post 0 u) : wpX_deallocate post (nI T, nI P, nI N, nI Q, dc, nI al, ic, tx, dx, st, S, O, ar, lx, h, mi, mk, mp, wl, rc) (nI t) (nI (m + 1)) := by
  unfold wpX_deallocate
  refine xm_task1 ht hT (br_f mr_10 ?_)
  refine xm_nt1 ht hT hm hN ?_
  rw [h0]
  refine br_f (by decide) (br_f (by decide) (xm_cell ⟨vp_in_nI (by omega) (by omega), nm_r (e' := nI p) (by rw [nI_clamp (by omega)]; exact hd) (br_f (by decide) ?_)⟩))
  refine xm_lose0 (by omega) (by rw [h0]; decide) ?_
  refine hX _ ?_
  obtain ⟨_, _, _, _, _, _, _, _, _, _, _, _, _, _, _, _, _, _, _, _⟩ := u
  exact br_f (by decide) hp
theorem xm_de3 {post : Int32 → SX → Prop} {u : SX} (ht : t < T) (hT : T ≤ 4) (hm : m < N) (hN : N ≤ 8) (h0 : tx (t * 8 + m) = 3) (hd : dx (t * 8 + m) = nI p) (hX : ∀ q : SX → Prop, q u → wpX_dropSend q (nI T, nI P, nI N, nI Q, dc, nI al, ic, upd tx (t * 8 + m) 1, dx, st, S, O, ar, lx, h, mi, mk, mp, wl, rc) (nI p)) (hp : post 0 u) : wpX_deallocate post (nI T, nI P, nI N, nI Q, dc, nI al, ic, tx, dx, st, S, O, ar, lx, h, mi, mk, mp, wl, rc) (nI t) (nI (m + 1)) := by
  unfold wpX_deallocate
  refine xm_task1 ht hT (br_f mr_10 ?_)
  refine xm_nt1 ht hT hm hN ?_
  rw [h0]
  refine br_f (by decide) (br_f (by decide) (xm_cell ⟨vp_in_nI (by omega) (by omega), nm_r (e' := nI p) (by rw [nI_clamp (by omega)]; exact hd) (br_f (by decide) ?_)⟩))
  refine xm_lose1 (w := 1) (by omega) (by rw [h0]; decide) (by decide) ?_
  refine hX _ ?_
  obtain ⟨_, _, _, _, _, _, _, _, _, _, _, _, _, _, _, _, _, _, _, _⟩ := u
  exact br_f (by decide) hp
theorem xm_de4 {post : Int32 → SX → Prop} (ht : t < T) (hT : T ≤ 4) (hm : m < N) (hN : N ≤ 8) (h0 : tx (t * 8 + m) = 4) (hd : dx (t * 8 + m) = nI p) (h16 : p < 16) (hl : mr_lv st p) (hp : post 0 (nI T, nI P, nI N, nI Q, dc, nI al, ic, upd tx (t * 8 + m) 0, upd dx (t * 8 + m) (-1), st, S, upd O p (O p - 1), ar, lx, h, mi, mk, mp, wl, rc)) : wpX_deallocate post (nI T, nI P, nI N, nI Q, dc, nI al, ic, tx, dx, st, S, O, ar, lx, h, mi, mk, mp, wl, rc) (nI t) (nI (m + 1)) := by
  unfold wpX_deallocate
  refine xm_task1 ht hT (br_f mr_10 ?_)
  refine xm_nt1 ht hT hm hN ?_
  rw [h0]
  refine br_f (by decide) (br_f (by decide) (xm_cell ⟨vp_in_nI (by omega) (by omega), nm_r (e' := nI p) (by rw [nI_clamp (by omega)]; exact hd) (br_t (by decide) ?_)⟩))
  refine xm_free (by omega) (br_t rfl ?_)
  exact xm_so1 h16 hl hp
theorem xm_de8 {post : Int32 → SX → Prop} (ht : t < T) (hT : T ≤ 4) (hm : m < N) (hN : N ≤ 8) (h0 : tx (t * 8 + m) = 8) (hp : post 0 (nI T, nI P, nI N, nI Q, dc, nI al, ic, upd tx (t * 8 + m) 0, upd dx (t * 8 + m) (-1), st, S, O, ar, lx, h, mi, mk, mp, wl, rc)) : wpX_deallocate post (nI T, nI P, nI N, nI Q, dc, nI al, ic, tx, dx, st, S, O, ar, lx, h, mi, mk, mp, wl, rc) (nI t) (nI (m + 1)) := by
  unfold wpX_deallocate
  refine xm_task1 ht hT (br_f mr_10 ?_)
  refine xm_nt1 ht hT hm hN ?_
  rw [h0]
  refine br_f (by decide) (br_f (by decide) (xm_cell ⟨vp_in_nI (by omega) (by omega), nm_e (br_t (by decide) ?_)⟩))
  exact xm_free (by omega) (br_f (by decide) hp)
theorem ym_deT {post : Int32 → SY → Prop} {y y2 : Int32} (hy : y < 0 ∨ nI T ≤ y) (hp : post (-1) (nI T, nI P, nI N, nI Q, nI al, ic, r0, r1, r2, r3, ty, dy, st, S, O, ar, qi, qk, qp, ly, wl)) : wpY_deallocate post (nI T, nI P, nI N, nI Q, nI al, ic, r0, r1, r2, r3, ty, dy, st, S, O, ar, qi, qk, qp, ly, wl) y y2 := by
  unfold wpY_deallocate
  exact ym_task0 hy (br_t rfl hp)
theorem ym_deN {post : Int32 → SY → Prop} {y2 : Int32} (ht : t < T) (hT : T ≤ 4) (hy : y2 < 1 ∨ nI N < y2) (hp : post (-2) (nI T, nI P, nI N, nI Q, nI al, ic, r0, r1, r2, r3, ty, dy, st, S, O, ar, qi, qk, qp, ly, wl)) : wpY_deallocate post (nI T, nI P, nI N, nI Q, nI al, ic, r0, r1, r2, r3, ty, dy, st, S, O, ar, qi, qk, qp, ly, wl) (nI t) y2 := by
  unfold wpY_deallocate
  refine ym_task1 ht hT (br_f mr_10 ?_)
  exact ym_name0 hy (br_t rfl hp)
theorem ym_de01 {post : Int32 → SY → Prop} (ht : t < T) (hT : T ≤ 4) (hm : m < N) (hN : N ≤ 8) (h0 : ty (t * 9 + (m + 1)) = 0 ∨ ty (t * 9 + (m + 1)) = 1) (hp : post (-2) (nI T, nI P, nI N, nI Q, nI al, ic, r0, r1, r2, r3, ty, dy, st, S, O, ar, qi, qk, qp, ly, wl)) : wpY_deallocate post (nI T, nI P, nI N, nI Q, nI al, ic, r0, r1, r2, r3, ty, dy, st, S, O, ar, qi, qk, qp, ly, wl) (nI t) (nI (m + 1)) := by
  unfold wpY_deallocate
  refine ym_task1 ht hT (br_f mr_10 ?_)
  refine ym_name1 hm hN (br_f mr_10 (nm_r mr_yc ⟨vp_in_nI (by omega) (by omega), nm_r (e' := ty (t * 9 + (m + 1))) (by rw [nI_clamp (by omega)]) ?_⟩))
  by_cases z : ty (t * 9 + (m + 1)) = 0
  · exact br_t z hp
  · exact br_f z (br_t (h0.resolve_left z) hp)
theorem ym_de2 {post : Int32 → SY → Prop} {u : SY} (ht : t < T) (hT : T ≤ 4) (hm : m < N) (hN : N ≤ 8) (h0 : ty (t * 9 + (m + 1)) = 2) (hd : dy (t * 9 + (m + 1)) = nI p) (hX : ∀ q : SY → Prop, q u → wpY_decS q (nI T, nI P, nI N, nI Q, nI al, ic, r0, r1, r2, r3, upd ty (t * 9 + (m + 1)) 0, upd dy (t * 9 + (m + 1)) (-1), st, S, O, ar, qi, qk, qp, ly, wl) (nI p)) (hp : post 0 u) : wpY_deallocate post (nI T, nI P, nI N, nI Q, nI al, ic, r0, r1, r2, r3, ty, dy, st, S, O, ar, qi, qk, qp, ly, wl) (nI t) (nI (m + 1)) := by
  have vc : vp_in (nI (t * 9 + (m + 1))) 36 := vp_in_nI (by omega) (by omega)
  have cc : (nI (t * 9 + (m + 1))).toNatClampNeg = t * 9 + (m + 1) := nI_clamp (by omega)
  unfold wpY_deallocate
  refine ym_task1 ht hT (br_f mr_10 ?_)
  refine ym_name1 hm hN (br_f mr_10 (nm_r mr_yc ⟨vc, nm_r (e' := 2) (by rw [cc]; exact h0) (br_f (by decide) (br_f (by decide) ⟨vc, nm_r (e' := nI p) (by rw [cc]; exact hd) ?_⟩))⟩))
  refine br_t rfl (ym_free (by omega) ?_)
  refine hX _ ?_
  obtain ⟨_, _, _, _, _, _, _, _, _, _, _, _, _, _, _, _, _, _, _, _, _⟩ := u
  exact hp
theorem ym_de3 {post : Int32 → SY → Prop} {u : SY} (ht : t < T) (hT : T ≤ 4) (hm : m < N) (hN : N ≤ 8) (h0 : ty (t * 9 + (m + 1)) = 3) (hd : dy (t * 9 + (m + 1)) = nI p) (hX : ∀ q : SY → Prop, q u → wpY_decS q (nI T, nI P, nI N, nI Q, nI al, ic, r0, r1, r2, r3, upd ty (t * 9 + (m + 1)) 1, dy, st, S, O, ar, qi, qk, qp, ly, wl) (nI p)) (hp : post 0 u) : wpY_deallocate post (nI T, nI P, nI N, nI Q, nI al, ic, r0, r1, r2, r3, ty, dy, st, S, O, ar, qi, qk, qp, ly, wl) (nI t) (nI (m + 1)) := by
  have vc : vp_in (nI (t * 9 + (m + 1))) 36 := vp_in_nI (by omega) (by omega)
  have cc : (nI (t * 9 + (m + 1))).toNatClampNeg = t * 9 + (m + 1) := nI_clamp (by omega)
  unfold wpY_deallocate
  refine ym_task1 ht hT (br_f mr_10 ?_)
  refine ym_name1 hm hN (br_f mr_10 (nm_r mr_yc ⟨vc, nm_r (e' := 3) (by rw [cc]; exact h0) (br_f (by decide) (br_f (by decide) ⟨vc, nm_r (e' := nI p) (by rw [cc]; exact hd) ?_⟩))⟩))
  refine br_f (by decide) (br_t rfl ⟨vc, nm_r (e' := upd ty (t * 9 + (m + 1)) 1) (by rw [cc]) ?_⟩)
  refine hX _ ?_
  obtain ⟨_, _, _, _, _, _, _, _, _, _, _, _, _, _, _, _, _, _, _, _, _⟩ := u
  exact hp
theorem ym_de4 {post : Int32 → SY → Prop} (ht : t < T) (hT : T ≤ 4) (hm : m < N) (hN : N ≤ 8) (h0 : ty (t * 9 + (m + 1)) = 4) (hd : dy (t * 9 + (m + 1)) = nI p) (h1 : p < P) (hP : P ≤ 16) (hl : mr_lv st p) (hp : post 0 (nI T, nI P, nI N, nI Q, nI al, ic, r0, r1, r2, r3, upd ty (t * 9 + (m + 1)) 0, upd dy (t * 9 + (m + 1)) (-1), st, S, upd O p (O p - 1), ar, qi, qk, qp, ly, wl)) : wpY_deallocate post (nI T, nI P, nI N, nI Q, nI al, ic, r0, r1, r2, r3, ty, dy, st, S, O, ar, qi, qk, qp, ly, wl) (nI t) (nI (m + 1)) := by
  have vc : vp_in (nI (t * 9 + (m + 1))) 36 := vp_in_nI (by omega) (by omega)
  have cc : (nI (t * 9 + (m + 1))).toNatClampNeg = t * 9 + (m + 1) := nI_clamp (by omega)
  unfold wpY_deallocate
  refine ym_task1 ht hT (br_f mr_10 ?_)
  refine ym_name1 hm hN (br_f mr_10 (nm_r mr_yc ⟨vc, nm_r (e' := 4) (by rw [cc]; exact h0) (br_f (by decide) (br_f (by decide) ⟨vc, nm_r (e' := nI p) (by rw [cc]; exact hd) ?_⟩))⟩))
  refine br_f (by decide) (br_f (by decide) (br_t rfl (ym_free (by omega) ?_)))
  exact ym_so1 h1 hP hl hp
theorem ym_de8 {post : Int32 → SY → Prop} (ht : t < T) (hT : T ≤ 4) (hm : m < N) (hN : N ≤ 8) (h0 : ty (t * 9 + (m + 1)) = 8) (hp : post 0 (nI T, nI P, nI N, nI Q, nI al, ic, r0, r1, r2, r3, upd ty (t * 9 + (m + 1)) 0, upd dy (t * 9 + (m + 1)) (-1), st, S, O, ar, qi, qk, qp, ly, wl)) : wpY_deallocate post (nI T, nI P, nI N, nI Q, nI al, ic, r0, r1, r2, r3, ty, dy, st, S, O, ar, qi, qk, qp, ly, wl) (nI t) (nI (m + 1)) := by
  have vc : vp_in (nI (t * 9 + (m + 1))) 36 := vp_in_nI (by omega) (by omega)
  have cc : (nI (t * 9 + (m + 1))).toNatClampNeg = t * 9 + (m + 1) := nI_clamp (by omega)
  unfold wpY_deallocate
  refine ym_task1 ht hT (br_f mr_10 ?_)
  refine ym_name1 hm hN (br_f mr_10 (nm_r mr_yc ⟨vc, nm_r (e' := 8) (by rw [cc]; exact h0) (br_f (by decide) (br_f (by decide) ⟨vc, nm_r (e' := dy (t * 9 + (m + 1))) (by rw [cc]) ?_⟩))⟩))
  exact br_f (by decide) (br_f (by decide) (br_f (by decide) (ym_free (by omega) hp)))
end
theorem i_vc_deallocate {k : Nat} {u : SX} {v : SY} (I : i_Rel k u v) (hk : k + 5 ≤ 2564) (v1 : Int32) (v2 : Int32) : wpX_deallocate (fun r u' => wpY_deallocate (fun r' v' => r' = r ∧ i_Rel (k + 5) u' v') v v1 v2) u v1 v2 := by
  obtain ⟨T, P, N, Q, al, l, dc, ic, tx, dx, st, S, O, ar, lx, h, mi, mk, mp, wl, rc, ty, dy, qi, qk, qp, ly, rfl, rfl, hR⟩ := I
  obtain ⟨b1, b2, b3, b4, b5, b6⟩ := mr_Rb hR
  have F := mr_fin (kk := k + 5) (dc := dc) (ic := ic) (wl := wl) (rc := rc) hR rfl rfl rfl rfl
  rcases mr_tk (T := T) v1 (by omega) with hy | ⟨t, ht, rfl⟩
  · exact xm_deT hy (ym_deT hy ⟨rfl, F⟩)
  rcases mr_nk (N := N) v2 b4 with hn | ⟨m, hm, rfl⟩
  · exact xm_deN ht b1 hn (ym_deN ht b1 hn ⟨rfl, F⟩)
  have hI := hR.2.2.2.2.2.2.2.2
  have nn := hR.2.1 t m (by omega) (by omega)
  have tk := mr_Ntok (c := t * 9 + (m + 1)) hI.1 (by omega)
  have he : (16 : Nat) < 16 → ¬ mr_lv st 16 := fun q => absurd q (by omega)
  rcases tk with h0 | h0 | h0 | h0 | h0 | h0
  · exact xm_de01 ht b1 hm b4 (Or.inl (nn.1.trans h0)) (ym_de01 ht b1 hm b4 (Or.inl h0) ⟨rfl, F⟩)
  · exact xm_de01 ht b1 hm b4 (Or.inr (nn.1.trans h0)) (ym_de01 ht b1 hm b4 (Or.inr h0) ⟨rfl, F⟩)
  · obtain ⟨p, hp, hd, hl⟩ := mr_Ns hI.1 (c := t * 9 + (m + 1)) (by omega) (by rw [h0]; decide) (by rw [h0]; decide)
    obtain ⟨S', ar', ic', l', lx', mi', mk', mp', qi', qk', qp', ly', r, _, dX, dY⟩ := mr_dec (mr_Rf hR (t := t) (m := m) (by omega)) hp he ic
    exact xm_de2 ht b1 hm b4 (nn.1.trans h0) (nn.2.trans hd) (dX dc wl rc) (ym_de2 ht b1 hm b4 h0 hd (dY _ _ _ _ wl) ⟨rfl, mr_fin r rfl rfl rfl rfl⟩)
  · obtain ⟨p, hp, hd, hl⟩ := mr_Ns hI.1 (c := t * 9 + (m + 1)) (by omega) (by rw [h0]; decide) (by rw [h0]; decide)
    obtain ⟨S', ar', ic', l', lx', mi', mk', mp', qi', qk', qp', ly', r, _, dX, dY⟩ := mr_dec (mr_R31 hR ht hm h0) hp he ic
    exact xm_de3 ht b1 hm b4 (nn.1.trans h0) (nn.2.trans hd) (dX dc wl rc) (ym_de3 ht b1 hm b4 h0 hd (dY _ _ _ _ wl) ⟨rfl, mr_fin r rfl rfl rfl rfl⟩)
  · obtain ⟨p, hp, hd, hl⟩ := mr_Ns hI.1 (c := t * 9 + (m + 1)) (by omega) (by rw [h0]; decide) (by rw [h0]; decide)
    have r := mr_RO (v := O p - 1) (mr_Rf hR (t := t) (m := m) (by omega)) hl
    exact xm_de4 ht b1 hm b4 (nn.1.trans h0) (nn.2.trans hd) (by omega) hl (ym_de4 ht b1 hm b4 h0 hd (by omega) b3 hl ⟨rfl, mr_fin r rfl rfl rfl rfl⟩)
  · have r := mr_Rf hR (t := t) (m := m) (by omega)
    exact xm_de8 ht b1 hm b4 (nn.1.trans h0) (ym_de8 ht b1 hm b4 h0 ⟨rfl, mr_fin r rfl rfl rfl rfl⟩)
end
section
/-! a right is copied out to a name, on both sides -/
section
variable {W W' : Nat → Prop} {e off T P N Q al p n t m x c D : Nat} {l : Nat → Nat} {dc ic r0 r1 r2 r3 : Int32} {tx dx st S O ar lx h mi mk mp wl rc ty dy qi qk qp ly : Nat → Int32} {v w i k z : Int32}
theorem xm_co1a {post : SX → Prop} {u : SX} (ht : t < 4) (hm : m < 8) (h0 : ¬ tx (t * 8 + m) &&& 2 = 0) (hd : dx (t * 8 + m) = nI p) (hX : ∀ q : SX → Prop, q u → wpX_dropSend q (nI T, nI P, nI N, nI Q, dc, nI al, ic, tx, dx, st, S, O, ar, lx, h, mi, mk, mp, wl, rc) (nI p)) (hp : post u) : wpX_copyOut post (nI T, nI P, nI N, nI Q, dc, nI al, ic, tx, dx, st, S, O, ar, lx, h, mi, mk, mp, wl, rc) (nI t) (nI (m + 1)) 1 (nI p) := by
  have v1 : vp_in (nI (t * 8 + m)) 32 := vp_in_nI (by omega) (by omega)
  have c1 : (nI (t * 8 + m)).toNatClampNeg = t * 8 + m := nI_clamp (by omega)
  unfold wpX_copyOut
  refine xm_cell ⟨v1, nm_r (e' := dx) (by rw [c1, mr_ui hd]) (br_f (by decide) (br_f (by decide) ⟨v1, br_f (by rw [c1]; exact h0) ?_⟩))⟩
  refine hX _ ?_
  obtain ⟨_, _, _, _, _, _, _, _, _, _, _, _, _, _, _, _, _, _, _, _⟩ := u
  exact hp
theorem xm_co1b {post : SX → Prop} (ht : t < 4) (hm : m < 8) (h0 : tx (t * 8 + m) &&& 2 = 0) (hv : tx (t * 8 + m) ||| 2 = v) (hp : post (nI T, nI P, nI N, nI Q, dc, nI al, ic, upd tx (t * 8 + m) v, upd dx (t * 8 + m) (nI p), st, S, O, ar, lx, h, mi, mk, mp, wl, rc)) : wpX_copyOut post (nI T, nI P, nI N, nI Q, dc, nI al, ic, tx, dx, st, S, O, ar, lx, h, mi, mk, mp, wl, rc) (nI t) (nI (m + 1)) 1 (nI p) := by
  have v1 : vp_in (nI (t * 8 + m)) 32 := vp_in_nI (by omega) (by omega)
  have c1 : (nI (t * 8 + m)).toNatClampNeg = t * 8 + m := nI_clamp (by omega)
  unfold wpX_copyOut
  exact xm_cell ⟨v1, nm_r (e' := upd dx (t * 8 + m) (nI p)) (by rw [c1]) (br_f (by decide) (br_f (by decide) ⟨v1, br_t (by rw [c1]; exact h0) ⟨v1, v1, nm_r (e' := upd tx (t * 8 + m) v) (by rw [c1, hv]) hp⟩⟩))⟩
theorem xm_co2 {post : SX → Prop} (ht : t < 4) (hm : m < 8) (hp : post (nI T, nI P, nI N, nI Q, dc, nI al, ic, upd tx (t * 8 + m) 4, upd dx (t * 8 + m) (nI p), st, S, O, ar, lx, h, mi, mk, mp, wl, rc)) : wpX_copyOut post (nI T, nI P, nI N, nI Q, dc, nI al, ic, tx, dx, st, S, O, ar, lx, h, mi, mk, mp, wl, rc) (nI t) (nI (m + 1)) 2 (nI p) := by
  have v1 : vp_in (nI (t * 8 + m)) 32 := vp_in_nI (by omega) (by omega)
  have c1 : (nI (t * 8 + m)).toNatClampNeg = t * 8 + m := nI_clamp (by omega)
  unfold wpX_copyOut
  exact xm_cell ⟨v1, nm_r (e' := upd dx (t * 8 + m) (nI p)) (by rw [c1]) (br_t rfl ⟨v1, nm_r (e' := upd tx (t * 8 + m) 4) (by rw [c1]) hp⟩)⟩
theorem xm_co3 {post : SX → Prop} (ht : t < 4) (hm : m < 8) (h16 : p < 16) (hv : tx (t * 8 + m) ||| 1 = v) (hp : post (nI T, nI P, nI N, nI Q, dc, nI al, ic, upd tx (t * 8 + m) v, upd dx (t * 8 + m) (nI p), upd st p 1, S, O, ar, lx, h, mi, mk, mp, wl, rc)) : wpX_copyOut post (nI T, nI P, nI N, nI Q, dc, nI al, ic, tx, dx, st, S, O, ar, lx, h, mi, mk, mp, wl, rc) (nI t) (nI (m + 1)) 3 (nI p) := by
  have v1 : vp_in (nI (t * 8 + m)) 32 := vp_in_nI (by omega) (by omega)
  have c1 : (nI (t * 8 + m)).toNatClampNeg = t * 8 + m := nI_clamp (by omega)
  have v2 : vp_in (nI p) 16 := vp_in_nI h16 (by omega)
  have c2 : (nI p).toNatClampNeg = p := nI_clamp (by omega)
  unfold wpX_copyOut
  exact xm_cell ⟨v1, nm_r (e' := upd dx (t * 8 + m) (nI p)) (by rw [c1]) (br_f (by decide) (br_t rfl ⟨v1, v1, nm_r (e' := upd tx (t * 8 + m) v) (by rw [c1, hv]) ⟨v2, nm_r (e' := upd st p 1) (by rw [c2]) hp⟩⟩))⟩
theorem ym_co1a {post : Int32 → SY → Prop} {S' ar' qi' qk' qp' ly' : Nat → Int32} {ic' : Int32} (ht : t < 4) (hm : m < N) (hN : N ≤ 8) (h1 : p < P) (hP : P ≤ 16) (hl : mr_lv st p) (hr : mr_lst (mr_rs ty dy t p) N (m + 1)) (h0 : ¬ ty (t * 9 + (m + 1)) &&& 2 = 0) (hv : ty (t * 9 + (m + 1)) ||| 2 = ty (t * 9 + (m + 1))) (hX : ∀ q : SY → Prop, q (nI T, nI P, nI N, nI Q, nI al, ic', r0, r1, r2, r3, ty, dy, st, S', O, ar', qi', qk', qp', ly', wl) → wpY_decS q (nI T, nI P, nI N, nI Q, nI al, ic, r0, r1, r2, r3, ty, dy, st, S, O, ar, qi, qk, qp, ly, wl) (nI p)) (hp : post (nI (m + 1)) (nI T, nI P, nI N, nI Q, nI al, ic', r0, r1, r2, r3, ty, dy, st, S', O, ar', qi', qk', qp', ly', wl)) : wpY_copyout post (nI T, nI P, nI N, nI Q, nI al, ic, r0, r1, r2, r3, ty, dy, st, S, O, ar, qi, qk, qp, ly, wl) (nI t) 1 (nI p) := by
  have v1 := mr_yv (t := t) (n := m + 1) ht (by omega)
  have c1 := mr_ycl (t := t) (n := m + 1) ht (by omega)
  unfold wpY_copyout
  refine br_t rfl (ym_live1 h1 hP hl (br_f mr_10 ?_))
  refine ym_rs ht hN hr (br_f (nI_ne0 (by omega) (by omega)) ⟨v1, br_f (by rw [c1]; exact h0) ?_⟩)
  refine hX _ ?_
  exact ⟨v1, v1, nm_r (e' := ty) (by rw [c1, hv, mr_ui rfl]) hp⟩
theorem ym_co1b {post : Int32 → SY → Prop} (ht : t < 4) (hm : m < N) (hN : N ≤ 8) (h1 : p < P) (hP : P ≤ 16) (hl : mr_lv st p) (hr : mr_lst (mr_rs ty dy t p) N (m + 1)) (h0 : ty (t * 9 + (m + 1)) &&& 2 = 0) (hv : ty (t * 9 + (m + 1)) ||| 2 = v) (hd : dy (t * 9 + (m + 1)) = nI p) (hp : post (nI (m + 1)) (nI T, nI P, nI N, nI Q, nI al, ic, r0, r1, r2, r3, upd ty (t * 9 + (m + 1)) v, upd dy (t * 9 + (m + 1)) (nI p), st, S, O, ar, qi, qk, qp, ly, wl)) : wpY_copyout post (nI T, nI P, nI N, nI Q, nI al, ic, r0, r1, r2, r3, ty, dy, st, S, O, ar, qi, qk, qp, ly, wl) (nI t) 1 (nI p) := by
  have v1 := mr_yv (t := t) (n := m + 1) ht (by omega)
  have c1 := mr_ycl (t := t) (n := m + 1) ht (by omega)
  rw [mr_ui hd] at hp
  unfold wpY_copyout
  refine br_t rfl (ym_live1 h1 hP hl (br_f mr_10 ?_))
  refine ym_rs ht hN hr (br_f (nI_ne0 (by omega) (by omega)) ⟨v1, br_t (by rw [c1]; exact h0) ?_⟩)
  exact ⟨v1, v1, nm_r (e' := upd ty (t * 9 + (m + 1)) v) (by rw [c1, hv]) hp⟩
theorem ym_co1c {post : Int32 → SY → Prop} (ht : t < 4) (hm : m < N) (hN : N ≤ 8) (h1 : p < P) (hP : P ≤ 16) (hl : mr_lv st p) (hr : mr_lst (mr_rs ty dy t p) N 0) (hr2 : mr_lst (fun n => ty (t * 9 + n) = 0) N (m + 1)) (hp : post (nI (m + 1)) (nI T, nI P, nI N, nI Q, nI al, ic, r0, r1, r2, r3, upd ty (t * 9 + (m + 1)) 2, upd dy (t * 9 + (m + 1)) (nI p), st, S, O, ar, qi, qk, qp, ly, wl)) : wpY_copyout post (nI T, nI P, nI N, nI Q, nI al, ic, r0, r1, r2, r3, ty, dy, st, S, O, ar, qi, qk, qp, ly, wl) (nI t) 1 (nI p) := by
  have v1 := mr_yv (t := t) (n := m + 1) ht (by omega)
  have c1 := mr_ycl (t := t) (n := m + 1) ht (by omega)
  unfold wpY_copyout
  refine br_t rfl (ym_live1 h1 hP hl (br_f mr_10 ?_))
  refine ym_rs ht hN hr (br_t nI_0 ?_)
  exact ym_lf ht hN hr2 (br_f (nI_ne0 (by omega) (by omega)) ⟨v1, nm_r (e' := upd ty (t * 9 + (m + 1)) 2) (by rw [c1]) ⟨v1, nm_r (e' := upd dy (t * 9 + (m + 1)) (nI p)) (by rw [c1]) hp⟩⟩)
theorem ym_co2 {post : Int32 → SY → Prop} (ht : t < 4) (hm : m < N) (hN : N ≤ 8) (h1 : p < P) (hP : P ≤ 16) (hl : mr_lv st p) (hr2 : mr_lst (fun n => ty (t * 9 + n) = 0) N (m + 1)) (hp : post (nI (m + 1)) (nI T, nI P, nI N, nI Q, nI al, ic, r0, r1, r2, r3, upd ty (t * 9 + (m + 1)) 4, upd dy (t * 9 + (m + 1)) (nI p), st, S, O, ar, qi, qk, qp, ly, wl)) : wpY_copyout post (nI T, nI P, nI N, nI Q, nI al, ic, r0, r1, r2, r3, ty, dy, st, S, O, ar, qi, qk, qp, ly, wl) (nI t) 2 (nI p) := by
  have v1 := mr_yv (t := t) (n := m + 1) ht (by omega)
  have c1 := mr_ycl (t := t) (n := m + 1) ht (by omega)
  unfold wpY_copyout
  refine br_f (by decide) (br_t rfl (ym_live1 h1 hP hl (br_f mr_10 ?_)))
  exact ym_lf ht hN hr2 (br_f (nI_ne0 (by omega) (by omega)) ⟨v1, nm_r (e' := upd ty (t * 9 + (m + 1)) 4) (by rw [c1]) ⟨v1, nm_r (e' := upd dy (t * 9 + (m + 1)) (nI p)) (by rw [c1]) hp⟩⟩)
theorem ym_co3a {post : Int32 → SY → Prop} (ht : t < 4) (hm : m < N) (hN : N ≤ 8) (h1 : p < P) (hP : P ≤ 16) (hk : ∀ c, c < 36 → mr_tok (ty c)) (hr : mr_lst (mr_fs ty dy t p) N (m + 1)) (hd : dy (t * 9 + (m + 1)) = nI p) (hp : post (nI (m + 1)) (nI T, nI P, nI N, nI Q, nI al, ic, r0, r1, r2, r3, upd ty (t * 9 + (m + 1)) 3, upd dy (t * 9 + (m + 1)) (nI p), upd st p 1, S, O, ar, qi, qk, qp, ly, wl)) : wpY_copyout post (nI T, nI P, nI N, nI Q, nI al, ic, r0, r1, r2, r3, ty, dy, st, S, O, ar, qi, qk, qp, ly, wl) (nI t) 3 (nI p) := by
  have v1 := mr_yv (t := t) (n := m + 1) ht (by omega)
  have c1 := mr_ycl (t := t) (n := m + 1) ht (by omega)
  have v2 : vp_in (nI p) 16 := vp_in_nI (by omega) (by omega)
  have c2 : (nI p).toNatClampNeg = p := nI_clamp (by omega)
  rw [mr_ui hd] at hp
  unfold wpY_copyout
  refine br_f (by decide) (br_f (by decide) (br_t rfl (br_f (nI_pos (by omega)) (br_t (nI_lt h1 (by omega)) ⟨v2, nm_r (e' := upd st p 1) (by rw [c2]) ?_⟩))))
  exact ym_fs ht hN hk hr (br_f (nI_ne0 (by omega) (by omega)) ⟨v1, nm_r (e' := upd ty (t * 9 + (m + 1)) 3) (by rw [c1]) hp⟩)
theorem ym_co3b {post : Int32 → SY → Prop} (ht : t < 4) (hm : m < N) (hN : N ≤ 8) (h1 : p < P) (hP : P ≤ 16) (hk : ∀ c, c < 36 → mr_tok (ty c)) (hr : mr_lst (mr_fs ty dy t p) N 0) (hr2 : mr_lst (fun n => ty (t * 9 + n) = 0) N (m + 1)) (hp : post (nI (m + 1)) (nI T, nI P, nI N, nI Q, nI al, ic, r0, r1, r2, r3, upd ty (t * 9 + (m + 1)) 1, upd dy (t * 9 + (m + 1)) (nI p), upd st p 1, S, O, ar, qi, qk, qp, ly, wl)) : wpY_copyout post (nI T, nI P, nI N, nI Q, nI al, ic, r0, r1, r2, r3, ty, dy, st, S, O, ar, qi, qk, qp, ly, wl) (nI t) 3 (nI p) := by
  have v1 := mr_yv (t := t) (n := m + 1) ht (by omega)
  have c1 := mr_ycl (t := t) (n := m + 1) ht (by omega)
  have v2 : vp_in (nI p) 16 := vp_in_nI (by omega) (by omega)
  have c2 : (nI p).toNatClampNeg = p := nI_clamp (by omega)
  unfold wpY_copyout
  refine br_f (by decide) (br_f (by decide) (br_t rfl (br_f (nI_pos (by omega)) (br_t (nI_lt h1 (by omega)) ⟨v2, nm_r (e' := upd st p 1) (by rw [c2]) ?_⟩))))
  refine ym_fs ht hN hk hr (br_t nI_0 ?_)
  exact ym_lf ht hN hr2 (br_f (nI_ne0 (by omega) (by omega)) ⟨v1, nm_r (e' := upd ty (t * 9 + (m + 1)) 1) (by rw [c1]) ⟨v1, nm_r (e' := upd dy (t * 9 + (m + 1)) (nI p)) (by rw [c1]) hp⟩⟩)
/-! does the copyout need a new name -/
theorem ym_nn1 {post : Int32 → Prop} {r : Nat} (ht : t < 4) (hN : N ≤ 8) (h1 : p < P) (hP : P ≤ 16) (hl : mr_lv st p) (hr : mr_lst (mr_rs ty dy t p) N r) (hp : post (if r = 0 then 1 else 0)) : wpY_needsNew post (nI T, nI P, nI N, nI Q, nI al, ic, r0, r1, r2, r3, ty, dy, st, S, O, ar, qi, qk, qp, ly, wl) (nI t) 1 (nI p) := by
  unfold wpY_needsNew
  refine br_t rfl (ym_live1 h1 hP hl (br_f mr_10 ?_))
  refine ym_rs ht hN hr ?_
  by_cases z : r = 0
  · rw [if_pos z] at hp
    exact br_t (by rw [z]; exact nI_0) hp
  · rw [if_neg z] at hp
    have l1 : r ≤ N := by
      rcases hr with a | a
      · omega
      · omega
    exact br_f (nI_ne0 (by omega) (by omega)) hp
theorem ym_nn2 {post : Int32 → Prop} {y : Int32} (h1 : p < P) (hP : P ≤ 16) (hl : mr_lv st p) (hp : post 1) : wpY_needsNew post (nI T, nI P, nI N, nI Q, nI al, ic, r0, r1, r2, r3, ty, dy, st, S, O, ar, qi, qk, qp, ly, wl) y 2 (nI p) := by
  unfold wpY_needsNew
  exact br_f (by decide) (br_t rfl (ym_live1 h1 hP hl ⟨rfl, hp⟩))
theorem ym_nnd {post : Int32 → Prop} {y : Int32} (h1 : p < 16) (hP : P ≤ 16) (hl : ¬ mr_lv st p) (hk : k = 1 ∨ k = 2) (hp : post 0) : wpY_needsNew post (nI T, nI P, nI N, nI Q, nI al, ic, r0, r1, r2, r3, ty, dy, st, S, O, ar, qi, qk, qp, ly, wl) y k (nI p) := by
  unfold wpY_needsNew
  rcases hk with rfl | rfl
  · exact br_t rfl (ym_live0 h1 hP hl (br_t rfl hp))
  · exact br_f (by decide) (br_t rfl (ym_live0 h1 hP hl ⟨rfl, hp⟩))
theorem ym_nn3 {post : Int32 → Prop} {r : Nat} (ht : t < 4) (hN : N ≤ 8) (hk : ∀ c, c < 36 → mr_tok (ty c)) (hr : mr_lst (mr_fs ty dy t p) N r) (hp : post (if r = 0 then 1 else 0)) : wpY_needsNew post (nI T, nI P, nI N, nI Q, nI al, ic, r0, r1, r2, r3, ty, dy, st, S, O, ar, qi, qk, qp, ly, wl) (nI t) 3 (nI p) := by
  unfold wpY_needsNew
  refine br_f (by decide) (br_f (by decide) (br_t rfl ?_))
  refine ym_fs ht hN hk hr ?_
  by_cases z : r = 0
  · rw [if_pos z] at hp
    exact br_t (by rw [z]; exact nI_0) hp
  · rw [if_neg z] at hp
    have l1 : r ≤ N := by
      rcases hr with a | a
      · omega
      · omega
    exact br_f (nI_ne0 (by omega) (by omega)) hp
theorem ym_nn0 {post : Int32 → Prop} {y y2 : Int32} (hk : k = 0 ∨ k = 4) (hp : post 0) : wpY_needsNew post (nI T, nI P, nI N, nI Q, nI al, ic, r0, r1, r2, r3, ty, dy, st, S, O, ar, qi, qk, qp, ly, wl) y k y2 := by
  unfold wpY_needsNew
  rcases hk with rfl | rfl
  · exact br_f (by decide) (br_f (by decide) (br_f (by decide) hp))
  · exact br_f (by decide) (br_f (by decide) (br_f (by decide) hp))
/-! a send right is copied out, on both sides -/
theorem mr_cp1 {r1 r2 : Nat} (hR : mr_R W e off T P N Q al l tx dx st S O ar lx h mi mk mp ty dy qi qk qp ly) (he : e < 16 → ¬ mr_lv st e) (ht : t < T) (hp : p < al) (hl : mr_lv st p) (hr : mr_lst (mr_rs ty dy t p) N r1) (hr2 : mr_lst (fun n => ty (t * 9 + n) = 0) N r2) (hm : (if r1 = 0 then r2 else r1) = m + 1) (ic : Int32) : ∃ (tx' dx' ty' dy' S' ar' : Nat → Int32) (ic' : Int32) (l' : Nat → Nat) (lx' mi' mk' mp' qi' qk' qp' ly' : Nat → Int32), mr_R W e off T P N Q al l' tx' dx' st S' O ar' lx' h mi' mk' mp' ty' dy' qi' qk' qp' ly' ∧ (∀ (dc : Int32) (wl rc : Nat → Int32) (post : SX → Prop), post (nI T, nI P, nI N, nI Q, dc, nI al, ic', tx', dx', st, S', O, ar', lx', h, mi', mk', mp', wl, rc) → wpX_copyOut post (nI T, nI P, nI N, nI Q, dc, nI al, ic, tx, dx, st, S, O, ar, lx, h, mi, mk, mp, wl, rc) (nI t) (nI (m + 1)) 1 (nI p)) ∧ (∀ (r0 r1 r2 r3 : Int32) (wl : Nat → Int32) (post : Int32 → SY → Prop), post (nI (m + 1)) (nI T, nI P, nI N, nI Q, nI al, ic', r0, r1, r2, r3, ty', dy', st, S', O, ar', qi', qk', qp', ly', wl) → wpY_copyout post (nI T, nI P, nI N, nI Q, nI al, ic, r0, r1, r2, r3, ty, dy, st, S, O, ar, qi, qk, qp, ly, wl) (nI t) 1 (nI p)) := by
  obtain ⟨b1, b2, b3, b4, b5, b6⟩ := mr_Rb hR
  have hI := hR.2.2.2.2.2.2.2.2
  by_cases z : r1 = 0
  · rw [if_pos z] at hm
    rw [z] at hr
    rw [hm] at hr2
    have hmN : m < N := by
      rcases hr2 with a | a
      · omega
      · omega
    have h0 : ty (t * 9 + (m + 1)) = 0 := by
      rcases hr2 with a | a
      · omega
      · exact a.2.2.1
    have nn := hR.2.1 t m (by omega) (by omega)
    have x0 := nn.1.trans h0
    exact ⟨_, _, _, _, _, _, _, _, _, _, _, _, _, _, _, _, mr_Rsnd (v := 2) hR hp hl ht hmN (Or.inl ⟨h0, rfl⟩), fun dc wl rc post hq => xm_co1b (by omega) (by omega) (by rw [x0]; decide) (by rw [x0]; decide) hq, fun r0 r1 r2 r3 wl post hq => ym_co1c (by omega) hmN b4 (by omega) b3 hl hr hr2 hq⟩
  · rw [if_neg z] at hm
    rw [hm] at hr
    have hmN : m < N := by
      rcases hr with a | a
      · omega
      · omega
    have h0 : mr_rs ty dy t p (m + 1) := by
      rcases hr with a | a
      · omega
      · exact a.2.2.1
    have nn := hR.2.1 t m (by omega) (by omega)
    have xd := nn.2.trans h0.2
    have K : (ty (t * 9 + (m + 1)) = 2 ∨ ty (t * 9 + (m + 1)) = 3) → ¬ ty (t * 9 + (m + 1)) &&& 2 = 0 ∧ ty (t * 9 + (m + 1)) ||| 2 = ty (t * 9 + (m + 1)) := by
      intro a
      rcases a with a | a
      · rw [a]; decide
      · rw [a]; decide
    by_cases y1 : ty (t * 9 + (m + 1)) = 1
    · have x1 := nn.1.trans y1
      exact ⟨_, _, _, _, _, _, _, _, _, _, _, _, _, _, _, _, mr_Rsnd (v := 3) hR hp hl ht hmN (Or.inr ⟨y1, h0.2, rfl⟩), fun dc wl rc post hq => xm_co1b (by omega) (by omega) (by rw [x1]; decide) (by rw [x1]; decide) hq, fun r0 r1 r2 r3 wl post hq => ym_co1b (by omega) hmN b4 (by omega) b3 hl hr (by rw [y1]; decide) (by rw [y1]; decide) h0.2 hq⟩
    · obtain ⟨k1, k2⟩ := K (h0.1.resolve_left y1)
      obtain ⟨S', ar', ic', l', lx', mi', mk', mp', qi', qk', qp', ly', r, _, dX, dY⟩ := mr_dec hR hp he ic
      exact ⟨_, _, _, _, _, _, _, _, _, _, _, _, _, _, _, _, r, fun dc wl rc post hq => xm_co1a (by omega) (by omega) (by rw [nn.1]; exact k1) xd (dX dc wl rc) hq, fun r0 r1 r2 r3 wl post hq => ym_co1a (by omega) hmN b4 (by omega) b3 hl hr k1 k2 (dY r0 r1 r2 r3 wl) hq⟩
end
end
section
/-! giveSend -/
section
variable {W W' : Nat → Prop} {e off T P N Q al p n t m x c D : Nat} {l : Nat → Nat} {dc ic r0 r1 r2 r3 : Int32} {tx dx st S O ar lx h mi mk mp wl rc ty dy qi qk qp ly : Nat → Int32} {v w i k z : Int32}
variable {t2 m2 : Nat} {u : SX}
theorem xm_gsA {post : Int32 → SX → Prop} {y3 : Int32} (ht : t < T) (hT : T ≤ 4) (hm : m < N) (hN : N ≤ 8) (h0 : ¬ tx (t * 8 + m) &&& 1 = 0) (hy : y3 < 0 ∨ nI T ≤ y3) (hp : post (-3) (nI T, nI P, nI N, nI Q, dc, nI al, ic, tx, dx, st, S, O, ar, lx, h, mi, mk, mp, wl, rc)) : wpX_giveSend post (nI T, nI P, nI N, nI Q, dc, nI al, ic, tx, dx, st, S, O, ar, lx, h, mi, mk, mp, wl, rc) (nI t) (nI (m + 1)) y3 := by
  unfold wpX_giveSend
  refine xm_rr0 ht hT hm hN h0 (br_t rfl ?_)
  exact xm_task0 hy (br_t rfl hp)
theorem xm_gsF {post : Int32 → SX → Prop} (ht : t < T) (hT : T ≤ 4) (hm : m < N) (hN : N ≤ 8) (h0 : ¬ tx (t * 8 + m) &&& 1 = 0) (ht2 : t2 < T) (hd : dx (t * 8 + m) = nI p) (hX : ∀ q : Int32 → Prop, q 0 → wpX_copyoutName q (nI T, nI P, nI N, nI Q, dc, nI al, ic, tx, dx, st, S, O, ar, lx, h, mi, mk, mp, wl, rc) (nI t2) 1 (nI p)) (hp : post (-4) (nI T, nI P, nI N, nI Q, dc, nI al, ic, tx, dx, st, S, O, ar, lx, h, mi, mk, mp, wl, rc)) : wpX_giveSend post (nI T, nI P, nI N, nI Q, dc, nI al, ic, tx, dx, st, S, O, ar, lx, h, mi, mk, mp, wl, rc) (nI t) (nI (m + 1)) (nI t2) := by
  unfold wpX_giveSend
  refine xm_rr0 ht hT hm hN h0 (br_t rfl ?_)
  refine xm_task1 ht2 hT (br_f mr_10 ?_)
  refine xm_cell ⟨vp_in_nI (by omega) (by omega), nm_r (e' := nI p) (by rw [nI_clamp (by omega)]; exact hd) ?_⟩
  exact hX _ (br_t rfl hp)
theorem xm_gs1 {post : Int32 → SX → Prop} (ht : t < T) (hT : T ≤ 4) (hm : m < N) (hN : N ≤ 8) (h0 : ¬ tx (t * 8 + m) &&& 1 = 0) (ht2 : t2 < T) (hd : dx (t * 8 + m) = nI p) (h16 : p < 16) (hm2 : m2 < N) (hX : ∀ q : Int32 → Prop, q (nI (m2 + 1)) → wpX_copyoutName q (nI T, nI P, nI N, nI Q, dc, nI al, ic, tx, dx, st, S, O, ar, lx, h, mi, mk, mp, wl, rc) (nI t2) 1 (nI p)) (hC : ∀ q : SX → Prop, q u → wpX_copyOut q (nI T, nI P, nI N, nI Q, dc, nI al, ic, tx, dx, st, upd S p (S p + 1), O, ar, lx, h, mi, mk, mp, wl, rc) (nI t2) (nI (m2 + 1)) 1 (nI p)) (hp : post (nI (m2 + 1)) u) : wpX_giveSend post (nI T, nI P, nI N, nI Q, dc, nI al, ic, tx, dx, st, S, O, ar, lx, h, mi, mk, mp, wl, rc) (nI t) (nI (m + 1)) (nI t2) := by
  have v1 : vp_in (nI p) 16 := vp_in_nI h16 (by omega)
  have c1 : (nI p).toNatClampNeg = p := nI_clamp (by omega)
  unfold wpX_giveSend
  refine xm_rr0 ht hT hm hN h0 (br_t rfl ?_)
  refine xm_task1 ht2 hT (br_f mr_10 ?_)
  refine xm_cell ⟨vp_in_nI (by omega) (by omega), nm_r (e' := nI p) (by rw [nI_clamp (by omega)]; exact hd) ?_⟩
  refine hX _ (br_f (nI_ne0 (by omega) (by omega)) ⟨v1, v1, nm_r (e' := upd S p (S p + 1)) (by rw [c1]) ?_⟩)
  refine hC _ ?_
  obtain ⟨_, _, _, _, _, _, _, _, _, _, _, _, _, _, _, _, _, _, _, _⟩ := u
  exact hp
theorem ym_gsA {post : Int32 → SY → Prop} {y3 : Int32} (ht : t < T) (hT : T ≤ 4) (hm : m < N) (hN : N ≤ 8) (h0 : ¬ ty (t * 9 + (m + 1)) &&& 1 = 0) (hy : y3 < 0 ∨ nI T ≤ y3) (hp : post (-3) (nI T, nI P, nI N, nI Q, nI al, ic, r0, r1, r2, r3, ty, dy, st, S, O, ar, qi, qk, qp, ly, wl)) : wpY_giveSend post (nI T, nI P, nI N, nI Q, nI al, ic, r0, r1, r2, r3, ty, dy, st, S, O, ar, qi, qk, qp, ly, wl) (nI t) (nI (m + 1)) y3 := by
  have v2 := mr_yv (t := t) (n := m + 1) (by omega) (by omega)
  have c2 := mr_ycl (t := t) (n := m + 1) (by omega) (by omega)
  unfold wpY_giveSend
  refine ym_task1 ht hT (br_f mr_10 ?_)
  refine ym_name1 hm hN (br_f mr_10 ⟨v2, br_f (by rw [c2]; exact h0) ?_⟩)
  exact ym_task0 hy (br_t rfl hp)
theorem ym_gs0 {post : Int32 → SY → Prop} {s1 s2 : Nat} (ht : t < T) (hT : T ≤ 4) (hm : m < N) (hN : N ≤ 8) (h0 : ¬ ty (t * 9 + (m + 1)) &&& 1 = 0) (ht2 : t2 < T) (hd : dy (t * 9 + (m + 1)) = nI p) (h1 : p < P) (hP : P ≤ 16) (hl : mr_lv st p) (hr : mr_lst (mr_rs ty dy t2 p) N s1) (hr2 : mr_lst (fun n => ty (t2 * 9 + n) = 0) N s2) (hF : (if s1 = 0 then s2 else s1) = 0 → post (-4) (nI T, nI P, nI N, nI Q, nI al, ic, r0, r1, r2, r3, ty, dy, st, S, O, ar, qi, qk, qp, ly, wl)) (hG : ¬ (if s1 = 0 then s2 else s1) = 0 → wpY_copyout post (nI T, nI P, nI N, nI Q, nI al, ic, r0, r1, r2, r3, ty, dy, st, upd S p (S p + 1), O, ar, qi, qk, qp, ly, wl) (nI t2) 1 (nI p)) : wpY_giveSend post (nI T, nI P, nI N, nI Q, nI al, ic, r0, r1, r2, r3, ty, dy, st, S, O, ar, qi, qk, qp, ly, wl) (nI t) (nI (m + 1)) (nI t2) := by
  have v2 := mr_yv (t := t) (n := m + 1) (by omega) (by omega)
  have c2 := mr_ycl (t := t) (n := m + 1) (by omega) (by omega)
  have v1 : vp_in (nI p) 16 := vp_in_nI (by omega) (by omega)
  have c1 : (nI p).toNatClampNeg = p := nI_clamp (by omega)
  unfold wpY_giveSend
  refine ym_task1 ht hT (br_f mr_10 ?_)
  refine ym_name1 hm hN (br_f mr_10 ⟨v2, br_f (by rw [c2]; exact h0) ?_⟩)
  refine ym_task1 ht2 hT (br_f mr_10 ⟨v2, nm_r (e' := nI p) (by rw [c2]; exact hd) ?_⟩)
  refine ym_nn1 (by omega) hN h1 hP hl hr ?_
  have G : wpY_copyout post (nI T, nI P, nI N, nI Q, nI al, ic, r0, r1, r2, r3, ty, dy, st, upd S p (S p + 1), O, ar, qi, qk, qp, ly, wl) (nI t2) 1 (nI p) → wY_giveSend_83 post (nI t2) (nI p) (nI T) (nI P) (nI N) (nI Q) (nI al) ic r0 r1 r2 r3 ty dy st S O ar qi qk qp ly wl := fun q => ⟨v1, v1, nm_r (e' := upd S p (S p + 1)) (by rw [c1]) q⟩
  by_cases z : s1 = 0
  · rw [if_pos z]
    rw [if_pos z] at hF hG
    refine br_f mr_10 (ym_lf (by omega) hN hr2 ?_)
    by_cases z2 : s2 = 0
    · exact br_t (by rw [z2]; exact nI_0) (hF z2)
    · have l1 : s2 ≤ N := by
        rcases hr2 with a | a
        · omega
        · omega
      exact br_f (nI_ne0 (by omega) (by omega)) (G (hG z2))
  · rw [if_neg z]
    rw [if_neg z] at hF hG
    exact br_t rfl (G (hG z))
end
theorem i_vc_giveSend {k : Nat} {u : SX} {v : SY} (I : i_Rel k u v) (hk : k + 5 ≤ 2564) (v1 : Int32) (v2 : Int32) (v3 : Int32) : wpX_giveSend (fun r u' => wpY_giveSend (fun r' v' => r' = r ∧ i_Rel (k + 5) u' v') v v1 v2 v3) u v1 v2 v3 := by
  obtain ⟨T, P, N, Q, al, l, dc, ic, tx, dx, st, S, O, ar, lx, h, mi, mk, mp, wl, rc, ty, dy, qi, qk, qp, ly, rfl, rfl, hR⟩ := I
  obtain ⟨b1, b2, b3, b4, b5, b6⟩ := mr_Rb hR
  have F := mr_fin (kk := k + 5) (dc := dc) (ic := ic) (wl := wl) (rc := rc) hR rfl rfl rfl rfl
  rcases mr_tk (T := T) v1 (by omega) with hy | ⟨t, ht, rfl⟩
  · exact xm_giveSendT hy (ym_giveSendT hy ⟨rfl, F⟩)
  rcases mr_nk (N := N) v2 b4 with hn | ⟨m, hm, rfl⟩
  · exact xm_giveSendN ht b1 hn (ym_giveSendN ht b1 hn ⟨rfl, F⟩)
  have hI := hR.2.2.2.2.2.2.2.2
  have nn := hR.2.1 t m (by omega) (by omega)
  have tk := mr_Ntok (c := t * 9 + (m + 1)) hI.1 (by omega)
  by_cases hr : ty (t * 9 + (m + 1)) &&& 1 = 0
  · exact xm_giveSendF ht b1 hm b4 (by rw [nn.1]; exact hr) (ym_giveSendF ht b1 hm b4 hr ⟨rfl, F⟩)
  · have hr' : ty (t * 9 + (m + 1)) = 1 ∨ ty (t * 9 + (m + 1)) = 3 := Classical.byContradiction (fun a => hr ((mr_a1 tk).mpr a))
    obtain ⟨p, hp, hd, hs⟩ := mr_Nr hI.1 (by omega) hr'
    have hl : mr_lv st p := Or.inl hs
    have X0 : ¬ tx (t * 8 + m) &&& 1 = 0 := by rw [nn.1]; exact hr
    rcases mr_tk (T := T) v3 (by omega) with hy | ⟨t2, ht2, rfl⟩
    · exact xm_gsA ht b1 hm b4 X0 hy (ym_gsA ht b1 hm b4 hr hy ⟨rfl, F⟩)
    · have hk36 : ∀ c, c < 36 → mr_tok (ty c) := fun c hc => mr_Ntok hI.1 hc
      obtain ⟨r1, q1⟩ := mr_lstE (mr_rs ty dy t2 p) N
      obtain ⟨r2, q2⟩ := mr_lstE (fun n => ty (t2 * 9 + n) = 0) N
      by_cases z : (if r1 = 0 then r2 else r1) = 0
      · refine xm_gsF ht b1 hm b4 X0 ht2 (nn.2.trans hd) (fun q hq => xm_con (by omega) b4 hR.2.1 hk36 q1 q2 (by decide) (by rw [z]; exact hq)) ?_
        exact ym_gs0 ht b1 hm b4 hr ht2 hd (by omega) b3 hl q1 q2 (fun _ => ⟨rfl, F⟩) (fun a => absurd z a)
      · obtain ⟨m2, e2⟩ : ∃ m2, (if r1 = 0 then r2 else r1) = m2 + 1 := ⟨(if r1 = 0 then r2 else r1) - 1, by omega⟩
        have hm2 : m2 < N := by
          have k1 : r1 ≤ N := by
            rcases q1 with a | a
            · omega
            · omega
          have k2 : r2 ≤ N := by
            rcases q2 with a | a
            · omega
            · omega
          by_cases z1 : r1 = 0
          · rw [if_pos z1] at e2
            omega
          · rw [if_neg z1] at e2
            omega
        have r := mr_RS (v := S p + 1) hR hl
        obtain ⟨tx', dx', ty', dy', S', ar', ic', l', lx', mi', mk', mp', qi', qk', qp', ly', r', dX, dY⟩ := mr_cp1 r (fun q => absurd q (by omega)) ht2 hp hl q1 q2 e2 ic
        exact xm_gs1 ht b1 hm b4 X0 ht2 (nn.2.trans hd) (by omega) hm2 (fun q hq => xm_con (by omega) b4 hR.2.1 hk36 q1 q2 (by decide) (by rw [e2]; exact hq)) (dX dc wl rc) (ym_gs0 ht b1 hm b4 hr ht2 hd (by omega) b3 hl q1 q2 (fun a => absurd a z) (fun _ => dY _ _ _ _ wl _ ⟨rfl, mr_fin r' rfl rfl rfl rfl⟩))
end
section
/-! receive: the walks -/
def mr_shf (p n : Nat) (a : Nat → Int32) : Nat → Int32 := fun c => if p * 9 ≤ c ∧ c < p * 9 + n then a (c + 1) else a c
theorem mr_Shf {p n : Nat} {a : Nat → Int32} : mr_Sh p n a (mr_shf p n a) := by
  refine ⟨fun i hi => ?_, fun c hc => ?_⟩
  · exact (if_pos (by omega)).trans rfl
  · exact if_neg (by omega)
theorem mr_Shu {p n : Nat} {a a' : Nat → Int32} (h : mr_Sh p n a a') : a' = mr_shf p n a := by
  funext c
  by_cases q : p * 9 ≤ c ∧ c < p * 9 + n
  · have e : c = p * 9 + (c - p * 9) := by omega
    have r := h.1 (c - p * 9) (by omega)
    have e2 : p * 9 + (c - p * 9 + 1) = c + 1 := by omega
    rw [← e, e2] at r
    rw [r]
    exact (if_pos q).symm
  · rw [h.2 c (by omega)]
    exact (if_neg q).symm
section
variable {W W' : Nat → Prop} {e off T P N Q al p n t m x c D : Nat} {l : Nat → Nat} {dc ic r0 r1 r2 r3 : Int32} {tx dx st S O ar lx h mi mk mp wl rc ty dy qi qk qp ly : Nat → Int32} {v w i k z : Int32}
variable {m2 : Nat} {S' ar' tx' dx' st' lx' mi' mk' mp' ty' dy' qi' qk' qp' ly' : Nat → Int32} {ic' kr nn : Int32}
theorem xm_rd {post : SX → Prop} (hp : p < 16) (h8 : n ≤ 8) (hl : lx p = nI (n + 1)) (hq : post (nI T, nI P, nI N, nI Q, dc, nI al, ic, tx, dx, st, S, O, ar, upd lx p (nI n), h, mr_shf p n mi, mr_shf p n mk, mr_shf p n mp, wl, rc)) : wpX_removeHead post (nI T, nI P, nI N, nI Q, dc, nI al, ic, tx, dx, st, S, O, ar, lx, h, mi, mk, mp, wl, rc) (nI p) :=
  xm_re hp h8 hl (fun mi' mk' mp' s1 s2 s3 => by rw [mr_Shu s1, mr_Shu s2, mr_Shu s3]; exact hq)
theorem ym_rd {post : SY → Prop} (hp : p < P) (hP : P ≤ 16) (h8 : n ≤ 8) (hl : ly p = nI (n + 1)) (hq : post (nI T, nI P, nI N, nI Q, nI al, ic, r0, r1, r2, r3, ty, dy, st, S, O, ar, mr_shf p n qi, mr_shf p n qk, mr_shf p n qp, upd ly p (nI n), wl)) : wpY_removeHead post (nI T, nI P, nI N, nI Q, nI al, ic, r0, r1, r2, r3, ty, dy, st, S, O, ar, qi, qk, qp, ly, wl) (nI p) :=
  ym_re hp hP h8 hl (fun mi' mk' mp' s1 s2 s3 => by rw [mr_Shu s1, mr_Shu s2, mr_Shu s3]; exact hq)
theorem xm_cr1 {post : Int32 → Prop} (hk : k = 1 ∨ k = 2 ∨ k = 3) (hp : post 1) : wpX_carriesRight post k := by
  unfold wpX_carriesRight
  rcases hk with rfl | rfl | rfl
  · exact br_t rfl hp
  · exact br_f (by decide) (br_t rfl hp)
  · exact br_f (by decide) (br_f (by decide) (br_t rfl hp))
theorem xm_cr0 {post : Int32 → Prop} (hk : k = 0 ∨ k = 4 ∨ k = 5) (hp : post 0) : wpX_carriesRight post k := by
  unfold wpX_carriesRight
  rcases hk with rfl | rfl | rfl
  · exact br_f (by decide) (br_f (by decide) (br_f (by decide) hp))
  · exact br_f (by decide) (br_f (by decide) (br_f (by decide) hp))
  · exact br_f (by decide) (br_f (by decide) (br_f (by decide) hp))
theorem xm_kr0 {post : Int32 → Prop} {y : Int32} (hk : k = 0 ∨ k = 4) (hp : post k) : wpX_kindReceived post (nI T, nI P, nI N, nI Q, dc, nI al, ic, tx, dx, st, S, O, ar, lx, h, mi, mk, mp, wl, rc) k y := by
  unfold wpX_kindReceived
  exact xm_cr0 (hk.elim Or.inl (fun a => Or.inr (Or.inl a))) (br_t rfl hp)
theorem xm_krd {post : Int32 → Prop} (h16 : x < 16) (hl : ¬ mr_lv st x) (hk : k = 1 ∨ k = 2 ∨ k = 3) (hp : post 5) : wpX_kindReceived post (nI T, nI P, nI N, nI Q, dc, nI al, ic, tx, dx, st, S, O, ar, lx, h, mi, mk, mp, wl, rc) k (nI x) := by
  unfold wpX_kindReceived
  refine xm_cr1 hk (br_f mr_10 ?_)
  exact xm_live0 h16 hl (br_t rfl hp)
theorem xm_krl {post : Int32 → Prop} (h16 : x < 16) (hl : mr_lv st x) (hk : k = 1 ∨ k = 2 ∨ k = 3) (hp : post k) : wpX_kindReceived post (nI T, nI P, nI N, nI Q, dc, nI al, ic, tx, dx, st, S, O, ar, lx, h, mi, mk, mp, wl, rc) k (nI x) := by
  unfold wpX_kindReceived
  refine xm_cr1 hk (br_f mr_10 ?_)
  exact xm_live1 h16 hl (br_f mr_10 hp)
theorem xm_rcE {post : Int32 → SX → Prop} (ht : t < T) (hT : T ≤ 4) (hm : m < N) (hN : N ≤ 8) (h0 : ¬ tx (t * 8 + m) &&& 1 = 0) (hd : dx (t * 8 + m) = nI p) (h16 : p < 16) (hl : lx p = 0) (hp : post (-5) (nI T, nI P, nI N, nI Q, dc, nI al, ic, tx, dx, st, S, O, ar, lx, h, mi, mk, mp, wl, rc)) : wpX_receive post (nI T, nI P, nI N, nI Q, dc, nI al, ic, tx, dx, st, S, O, ar, lx, h, mi, mk, mp, wl, rc) (nI t) (nI (m + 1)) := by
  unfold wpX_receive
  refine xm_rr0 ht hT hm hN h0 (br_t rfl ?_)
  exact xm_cell ⟨vp_in_nI (by omega) (by omega), nm_r (e' := nI p) (by rw [nI_clamp (by omega)]; exact hd) ⟨vp_in_nI h16 (by omega), br_t (by rw [nI_clamp (by omega)]; exact hl) hp⟩⟩
theorem xm_rcA {post : Int32 → SX → Prop} (ht : t < T) (hT : T ≤ 4) (hm : m < N) (hN : N ≤ 8) (h0 : ¬ tx (t * 8 + m) &&& 1 = 0) (hd : dx (t * 8 + m) = nI p) (h16 : p < 16) (h8 : n ≤ 8) (hl : lx p = nI (n + 1)) (hkr : ∀ q : Int32 → Prop, q kr → wpX_kindReceived q (nI T, nI P, nI N, nI Q, dc, nI al, ic, tx, dx, st, S, O, ar, lx, h, mi, mk, mp, wl, rc) (mk (p * 9)) (mp (p * 9))) (hcr : ∀ q : Int32 → Prop, q 0 → wpX_carriesRight q kr) (hp : post (mi (p * 9)) (nI T, nI P, nI N, nI Q, dc, nI al, ic, tx, dx, st, S, O, ar, upd lx p (nI n), h, mr_shf p n mi, mr_shf p n mk, mr_shf p n mp, wl, upd (upd (upd (upd rc 0 (mi (p * 9))) 1 kr) 2 0) 3 (mp (p * 9)))) : wpX_receive post (nI T, nI P, nI N, nI Q, dc, nI al, ic, tx, dx, st, S, O, ar, lx, h, mi, mk, mp, wl, rc) (nI t) (nI (m + 1)) := by
  have v9 : vp_in (nI (p * 9)) 144 := vp_in_nI (by omega) (by omega)
  have c9 : (nI (p * 9)).toNatClampNeg = p * 9 := nI_clamp (by omega)
  unfold wpX_receive
  refine xm_rr0 ht hT hm hN h0 (br_t rfl ?_)
  refine xm_cell ⟨vp_in_nI (by omega) (by omega), nm_r (e' := nI p) (by rw [nI_clamp (by omega)]; exact hd) ⟨vp_in_nI h16 (by omega), br_f (by rw [nI_clamp (by omega), hl]; exact nI_ne0 (by omega) (by omega)) (nm_r mr_9 ⟨v9, nm_r (e' := mi (p * 9)) (by rw [c9]) ⟨v9, nm_r (e' := mp (p * 9)) (by rw [c9]) ⟨v9, ?_⟩⟩⟩)⟩⟩
  rw [c9]
  refine hkr _ (hcr _ (br_t rfl (br_t rfl ?_)))
  exact xm_rd h16 h8 hl (br_t rfl (nm_e (nm_e (nm_e (nm_e hp)))))
theorem xm_rcF {post : Int32 → SX → Prop} (ht : t < T) (hT : T ≤ 4) (hm : m < N) (hN : N ≤ 8) (h0 : ¬ tx (t * 8 + m) &&& 1 = 0) (hd : dx (t * 8 + m) = nI p) (h16 : p < 16) (h8 : n ≤ 8) (hl : lx p = nI (n + 1)) (hkr : ∀ q : Int32 → Prop, q kr → wpX_kindReceived q (nI T, nI P, nI N, nI Q, dc, nI al, ic, tx, dx, st, S, O, ar, lx, h, mi, mk, mp, wl, rc) (mk (p * 9)) (mp (p * 9))) (hcr : ∀ q : Int32 → Prop, q 1 → wpX_carriesRight q kr) (hcn : ∀ q : Int32 → Prop, q 0 → wpX_copyoutName q (nI T, nI P, nI N, nI Q, dc, nI al, ic, tx, dx, st, S, O, ar, lx, h, mi, mk, mp, wl, rc) (nI t) kr (mp (p * 9))) (hp : post (-4) (nI T, nI P, nI N, nI Q, dc, nI al, ic, tx, dx, st, S, O, ar, lx, h, mi, mk, mp, wl, rc)) : wpX_receive post (nI T, nI P, nI N, nI Q, dc, nI al, ic, tx, dx, st, S, O, ar, lx, h, mi, mk, mp, wl, rc) (nI t) (nI (m + 1)) := by
  have v9 : vp_in (nI (p * 9)) 144 := vp_in_nI (by omega) (by omega)
  have c9 : (nI (p * 9)).toNatClampNeg = p * 9 := nI_clamp (by omega)
  unfold wpX_receive
  refine xm_rr0 ht hT hm hN h0 (br_t rfl ?_)
  refine xm_cell ⟨vp_in_nI (by omega) (by omega), nm_r (e' := nI p) (by rw [nI_clamp (by omega)]; exact hd) ⟨vp_in_nI h16 (by omega), br_f (by rw [nI_clamp (by omega), hl]; exact nI_ne0 (by omega) (by omega)) (nm_r mr_9 ⟨v9, nm_r (e' := mi (p * 9)) (by rw [c9]) ⟨v9, nm_r (e' := mp (p * 9)) (by rw [c9]) ⟨v9, ?_⟩⟩⟩)⟩⟩
  rw [c9]
  refine hkr _ (hcr _ (br_f mr_10 ?_))
  exact hcn _ (br_f mr_10 (br_t rfl hp))
theorem xm_rcC {post : Int32 → SX → Prop} (ht : t < T) (hT : T ≤ 4) (hm : m < N) (hN : N ≤ 8) (h0 : ¬ tx (t * 8 + m) &&& 1 = 0) (hd : dx (t * 8 + m) = nI p) (h16 : p < 16) (h8 : n ≤ 8) (hl : lx p = nI (n + 1)) (hkr : ∀ q : Int32 → Prop, q kr → wpX_kindReceived q (nI T, nI P, nI N, nI Q, dc, nI al, ic, tx, dx, st, S, O, ar, lx, h, mi, mk, mp, wl, rc) (mk (p * 9)) (mp (p * 9))) (hcr : ∀ q : Int32 → Prop, q 1 → wpX_carriesRight q kr) (hm2 : m2 < N) (hcn : ∀ q : Int32 → Prop, q (nI (m2 + 1)) → wpX_copyoutName q (nI T, nI P, nI N, nI Q, dc, nI al, ic, tx, dx, st, S, O, ar, lx, h, mi, mk, mp, wl, rc) (nI t) kr (mp (p * 9))) (hC : ∀ q : SX → Prop, q (nI T, nI P, nI N, nI Q, dc, nI al, ic', tx', dx', st', S', O, ar', lx', h, mi', mk', mp', wl, rc) → wpX_copyOut q (nI T, nI P, nI N, nI Q, dc, nI al, ic, tx, dx, st, S, O, ar, upd lx p (nI n), h, mr_shf p n mi, mr_shf p n mk, mr_shf p n mp, wl, rc) (nI t) (nI (m2 + 1)) kr (mp (p * 9))) (hp : post (mi (p * 9)) (nI T, nI P, nI N, nI Q, dc, nI al, ic', tx', dx', st', S', O, ar', lx', h, mi', mk', mp', wl, upd (upd (upd (upd rc 0 (mi (p * 9))) 1 kr) 2 (nI (m2 + 1))) 3 (mp (p * 9)))) : wpX_receive post (nI T, nI P, nI N, nI Q, dc, nI al, ic, tx, dx, st, S, O, ar, lx, h, mi, mk, mp, wl, rc) (nI t) (nI (m + 1)) := by
  have v9 : vp_in (nI (p * 9)) 144 := vp_in_nI (by omega) (by omega)
  have c9 : (nI (p * 9)).toNatClampNeg = p * 9 := nI_clamp (by omega)
  unfold wpX_receive
  refine xm_rr0 ht hT hm hN h0 (br_t rfl ?_)
  refine xm_cell ⟨vp_in_nI (by omega) (by omega), nm_r (e' := nI p) (by rw [nI_clamp (by omega)]; exact hd) ⟨vp_in_nI h16 (by omega), br_f (by rw [nI_clamp (by omega), hl]; exact nI_ne0 (by omega) (by omega)) (nm_r mr_9 ⟨v9, nm_r (e' := mi (p * 9)) (by rw [c9]) ⟨v9, nm_r (e' := mp (p * 9)) (by rw [c9]) ⟨v9, ?_⟩⟩⟩)⟩⟩
  rw [c9]
  refine hkr _ (hcr _ (br_f mr_10 ?_))
  refine hcn _ (br_f mr_10 (br_f (nI_ne0 (by omega) (by omega)) ?_))
  refine xm_rd h16 h8 hl (br_f mr_10 ?_)
  exact hC _ (nm_e (nm_e (nm_e (nm_e hp))))
/-! and in the reference -/
theorem ym_rcE {post : Int32 → SY → Prop} (ht : t < T) (hT : T ≤ 4) (hm : m < N) (hN : N ≤ 8) (h0 : ¬ ty (t * 9 + (m + 1)) &&& 1 = 0) (hd : dy (t * 9 + (m + 1)) = nI p) (h1 : p < P) (hP : P ≤ 16) (hl : ly p = 0) (hp : post (-5) (nI T, nI P, nI N, nI Q, nI al, ic, r0, r1, r2, r3, ty, dy, st, S, O, ar, qi, qk, qp, ly, wl)) : wpY_receive post (nI T, nI P, nI N, nI Q, nI al, ic, r0, r1, r2, r3, ty, dy, st, S, O, ar, qi, qk, qp, ly, wl) (nI t) (nI (m + 1)) := by
  have v2 := mr_yv (t := t) (n := m + 1) (by omega) (by omega)
  have c2 := mr_ycl (t := t) (n := m + 1) (by omega) (by omega)
  unfold wpY_receive
  refine ym_task1 ht hT (br_f mr_10 ?_)
  exact ym_name1 hm hN (br_f mr_10 ⟨v2, br_f (by rw [c2]; exact h0) ⟨v2, nm_r (e' := nI p) (by rw [c2]; exact hd) (br_f (nI_pos (by omega)) (br_f (nI_ge h1 (by omega)) ⟨vp_in_nI (by omega) (by omega), br_t (by rw [nI_clamp (by omega)]; exact hl) hp⟩))⟩⟩)
theorem ym_rcP {post : Int32 → SY → Prop} {s2 : Nat} (ht : t < T) (hT : T ≤ 4) (hm : m < N) (hN : N ≤ 8) (h0 : ¬ ty (t * 9 + (m + 1)) &&& 1 = 0) (hd : dy (t * 9 + (m + 1)) = nI p) (h1 : p < P) (hP : P ≤ 16) (h8 : n ≤ 8) (hl : ly p = nI (n + 1)) (hnn : ∀ q : Int32 → Prop, q nn → wpY_needsNew q (nI T, nI P, nI N, nI Q, nI al, ic, r0, r1, r2, r3, ty, dy, st, S, O, ar, qi, qk, qp, ly, wl) (nI t) (qk (p * 9)) (qp (p * 9))) (hr2 : mr_lst (fun n => ty (t * 9 + n) = 0) N s2) (hA : nn = 0 → wY_receive_129 post (nI t) (nI p) (qi (p * 9)) (qk (p * 9)) (qp (p * 9)) (nI T) (nI P) (nI N) (nI Q) (nI al) ic r0 r1 r2 r3 ty dy st S O ar qi qk qp ly wl) (hB : ¬ nn = 0 → s2 = 0 → post (-4) (nI T, nI P, nI N, nI Q, nI al, ic, r0, r1, r2, r3, ty, dy, st, S, O, ar, qi, qk, qp, ly, wl)) (hC : ¬ nn = 0 → ¬ s2 = 0 → wY_receive_129 post (nI t) (nI p) (qi (p * 9)) (qk (p * 9)) (qp (p * 9)) (nI T) (nI P) (nI N) (nI Q) (nI al) ic r0 r1 r2 r3 ty dy st S O ar qi qk qp ly wl) : wpY_receive post (nI T, nI P, nI N, nI Q, nI al, ic, r0, r1, r2, r3, ty, dy, st, S, O, ar, qi, qk, qp, ly, wl) (nI t) (nI (m + 1)) := by
  have v2 := mr_yv (t := t) (n := m + 1) (by omega) (by omega)
  have c2 := mr_ycl (t := t) (n := m + 1) (by omega) (by omega)
  have v9 : vp_in (nI p * 9) 144 := by
    rw [mr_9]
    exact vp_in_nI (by omega) (by omega)
  have c9 : (nI p * 9).toNatClampNeg = p * 9 := by
    rw [mr_9]
    exact nI_clamp (by omega)
  unfold wpY_receive
  refine ym_task1 ht hT (br_f mr_10 ?_)
  refine ym_name1 hm hN (br_f mr_10 ⟨v2, br_f (by rw [c2]; exact h0) ⟨v2, nm_r (e' := nI p) (by rw [c2]; exact hd) (br_f (nI_pos (by omega)) (br_f (nI_ge h1 (by omega)) ⟨vp_in_nI (by omega) (by omega), br_f (by rw [nI_clamp (by omega), hl]; exact nI_ne0 (by omega) (by omega)) ⟨v9, nm_r (e' := qi (p * 9)) (by rw [c9]) ⟨v9, nm_r (e' := qk (p * 9)) (by rw [c9]) ⟨v9, nm_r (e' := qp (p * 9)) (by rw [c9]) ?_⟩⟩⟩⟩))⟩⟩)
  refine hnn _ ?_
  by_cases z : nn = 0
  · exact br_t z (hA z)
  · refine br_f z (ym_lf (by omega) hN hr2 ?_)
    by_cases z2 : s2 = 0
    · exact br_t (by rw [z2]; exact nI_0) (hB z z2)
    · have l1 : s2 ≤ N := by
        rcases hr2 with a | a
        · omega
        · omega
      exact br_f (nI_ne0 (by omega) (by omega)) (hC z z2)
theorem ym_129a {post : Int32 → SY → Prop} {y y2 y3 : Int32} (h1 : p < P) (hP : P ≤ 16) (h8 : n ≤ 8) (hl : ly p = nI (n + 1)) (hk : k = 0 ∨ k = 4) (hp : post y2 (nI T, nI P, nI N, nI Q, nI al, ic, y2, k, 0, -1, ty, dy, st, S, O, ar, mr_shf p n qi, mr_shf p n qk, mr_shf p n qp, upd ly p (nI n), wl)) : wY_receive_129 post y (nI p) y2 k y3 (nI T) (nI P) (nI N) (nI Q) (nI al) ic r0 r1 r2 r3 ty dy st S O ar qi qk qp ly wl := by
  unfold wY_receive_129
  refine ym_rd h1 hP h8 hl ?_
  rcases hk with rfl | rfl
  · exact br_f (by decide) (br_f (by decide) (br_f (by decide) hp))
  · exact br_f (by decide) (br_f (by decide) (br_f (by decide) hp))
theorem ym_129d {post : Int32 → SY → Prop} {y y2 : Int32} (h1 : p < P) (hP : P ≤ 16) (h8 : n ≤ 8) (hl : ly p = nI (n + 1)) (hk : k = 1 ∨ k = 2) (hx : x < 16) (hd : ¬ mr_lv st x) (hp : post y2 (nI T, nI P, nI N, nI Q, nI al, ic, y2, 5, 0, nI x, ty, dy, st, S, O, ar, mr_shf p n qi, mr_shf p n qk, mr_shf p n qp, upd ly p (nI n), wl)) : wY_receive_129 post y (nI p) y2 k (nI x) (nI T) (nI P) (nI N) (nI Q) (nI al) ic r0 r1 r2 r3 ty dy st S O ar qi qk qp ly wl := by
  unfold wY_receive_129
  refine ym_rd h1 hP h8 hl ?_
  rcases hk with rfl | rfl
  · refine br_t rfl ?_
    unfold wY_receive_157
    exact ym_live0 hx hP hd (br_t rfl hp)
  · refine br_f (by decide) (br_t rfl ?_)
    unfold wY_receive_157
    exact ym_live0 hx hP hd (br_t rfl hp)
theorem ym_129s {post : Int32 → SY → Prop} {y y2 : Int32} (h1 : p < P) (hP : P ≤ 16) (h8 : n ≤ 8) (hl : ly p = nI (n + 1)) (hk : k = 1 ∨ k = 2) (hx : x < P) (hd : mr_lv st x) (hC : ∀ q : Int32 → SY → Prop, q w (nI T, nI P, nI N, nI Q, nI al, ic', r0, r1, r2, r3, ty', dy', st', S', O, ar', qi', qk', qp', ly', wl) → wpY_copyout q (nI T, nI P, nI N, nI Q, nI al, ic, r0, r1, r2, r3, ty, dy, st, S, O, ar, mr_shf p n qi, mr_shf p n qk, mr_shf p n qp, upd ly p (nI n), wl) y k (nI x)) (hp : post y2 (nI T, nI P, nI N, nI Q, nI al, ic', y2, k, w, nI x, ty', dy', st', S', O, ar', qi', qk', qp', ly', wl)) : wY_receive_129 post y (nI p) y2 k (nI x) (nI T) (nI P) (nI N) (nI Q) (nI al) ic r0 r1 r2 r3 ty dy st S O ar qi qk qp ly wl := by
  unfold wY_receive_129
  refine ym_rd h1 hP h8 hl ?_
  rcases hk with rfl | rfl
  · refine br_t rfl ?_
    unfold wY_receive_157
    refine ym_live1 hx hP hd (br_f mr_10 ?_)
    exact hC _ hp
  · refine br_f (by decide) (br_t rfl ?_)
    unfold wY_receive_157
    refine ym_live1 hx hP hd (br_f mr_10 ?_)
    exact hC _ hp
theorem ym_129r {post : Int32 → SY → Prop} {y y2 : Int32} (h1 : p < P) (hP : P ≤ 16) (h8 : n ≤ 8) (hl : ly p = nI (n + 1)) (hC : ∀ q : Int32 → SY → Prop, q w (nI T, nI P, nI N, nI Q, nI al, ic', r0, r1, r2, r3, ty', dy', st', S', O, ar', qi', qk', qp', ly', wl) → wpY_copyout q (nI T, nI P, nI N, nI Q, nI al, ic, r0, r1, r2, r3, ty, dy, st, S, O, ar, mr_shf p n qi, mr_shf p n qk, mr_shf p n qp, upd ly p (nI n), wl) y 3 (nI x)) (hp : post y2 (nI T, nI P, nI N, nI Q, nI al, ic', y2, 3, w, nI x, ty', dy', st', S', O, ar', qi', qk', qp', ly', wl)) : wY_receive_129 post y (nI p) y2 3 (nI x) (nI T) (nI P) (nI N) (nI Q) (nI al) ic r0 r1 r2 r3 ty dy st S O ar qi qk qp ly wl := by
  unfold wY_receive_129
  refine ym_rd h1 hP h8 hl ?_
  refine br_f (by decide) (br_f (by decide) (br_t rfl ?_))
  exact hC _ hp
end
end
section
/-! receive -/
section
variable {W W' : Nat → Prop} {e off T P N Q al p n t m x c D : Nat} {l : Nat → Nat} {dc ic r0 r1 r2 r3 : Int32} {tx dx st S O ar lx h mi mk mp wl rc ty dy qi qk qp ly : Nat → Int32} {v w i k z : Int32}
theorem mr_lf8 {pr : Nat → Prop} {r : Nat} (hr : mr_lst pr N r) : r ≤ N := by
  rcases hr with a | a
  · omega
  · omega
theorem mr_tgt {s1 s2 : Nat} {pr pr' : Nat → Prop} (q1 : mr_lst pr N s1) (q2 : mr_lst pr' N s2) (z : ¬ (if s1 = 0 then s2 else s1) = 0) : ∃ m2, m2 < N ∧ (if s1 = 0 then s2 else s1) = m2 + 1 := by
  have k1 := mr_lf8 q1
  have k2 := mr_lf8 q2
  by_cases z1 : s1 = 0
  · rw [if_pos z1] at z ⊢
    exact ⟨s2 - 1, by omega, by omega⟩
  · rw [if_neg z1] at z ⊢
    exact ⟨s1 - 1, by omega, by omega⟩
/-- a port in transit has no name with its receive right -/
theorem mr_rsfs {s1 : Nat} (hal : al ≤ 16) (hN : mr_N T N al st ty dy) (ht : t < 4) (h8 : N ≤ 8) (hx : x < 16) (hs : st x = 2) (q1 : mr_lst (mr_rs ty dy t x) N s1) : mr_lst (mr_fs ty dy t x) N s1 := by
  refine mr_lstC q1 (fun n a b => ⟨fun q => ⟨q.1.resolve_left (fun r => ?_), q.2⟩, fun q => ⟨Or.inr q.1, q.2⟩⟩)
  obtain ⟨p, hp, hd, h1⟩ := mr_Nr hN (c := t * 9 + n) (by omega) (Or.inl r)
  have ee : p = x := mr_inj (hd.symm.trans q.2) (by omega) (by omega)
  rw [ee, hs] at h1
  exact absurd h1 (by decide)
end
theorem i_vc_receive {k : Nat} {u : SX} {v : SY} (I : i_Rel k u v) (hk : k + 5 ≤ 2564) (v1 : Int32) (v2 : Int32) : wpX_receive (fun r u' => wpY_receive (fun r' v' => r' = r ∧ i_Rel (k + 5) u' v') v v1 v2) u v1 v2 := by
  obtain ⟨T, P, N, Q, al, l, dc, ic, tx, dx, st, S, O, ar, lx, h, mi, mk, mp, wl, rc, ty, dy, qi, qk, qp, ly, rfl, rfl, hR⟩ := I
  obtain ⟨b1, b2, b3, b4, b5, b6⟩ := mr_Rb hR
  have F := mr_fin (kk := k + 5) (dc := dc) (ic := ic) (wl := wl) (rc := rc) hR rfl rfl rfl rfl
  rcases mr_tk (T := T) v1 (by omega) with hy | ⟨t, ht, rfl⟩
  · exact xm_receiveT hy (ym_receiveT hy ⟨rfl, F⟩)
  rcases mr_nk (N := N) v2 b4 with hn | ⟨m, hm, rfl⟩
  · exact xm_receiveN ht b1 hn (ym_receiveN ht b1 hn ⟨rfl, F⟩)
  have hI := hR.2.2.2.2.2.2.2.2
  have nn := hR.2.1 t m (by omega) (by omega)
  have tk := mr_Ntok (c := t * 9 + (m + 1)) hI.1 (by omega)
  by_cases hr : ty (t * 9 + (m + 1)) &&& 1 = 0
  · exact xm_receiveF ht b1 hm b4 (by rw [nn.1]; exact hr) (ym_receiveF ht b1 hm b4 hr ⟨rfl, F⟩)
  have hr' : ty (t * 9 + (m + 1)) = 1 ∨ ty (t * 9 + (m + 1)) = 3 := Classical.byContradiction (fun a => hr ((mr_a1 tk).mpr a))
  obtain ⟨p, hp, hd, hs⟩ := mr_Nr hI.1 (by omega) hr'
  have hl : mr_lv st p := Or.inl hs
  have X0 : ¬ tx (t * 8 + m) &&& 1 = 0 := by rw [nn.1]; exact hr
  have xd := nn.2.trans hd
  obtain ⟨e1, e2, e3, e4⟩ := mr_lxy hR (p := p) (by omega)
  by_cases l0 : l p = 0
  · exact xm_rcE ht b1 hm b4 X0 xd (by omega) (by rw [e1, l0]; exact nI_0) (ym_rcE ht b1 hm b4 hr hd (by omega) b3 (by rw [e2, l0]; exact nI_0) ⟨rfl, F⟩)
  obtain ⟨n, hn⟩ : ∃ n, l p = n + 1 := ⟨l p - 1, by omega⟩
  have n8 : n ≤ 8 := by omega
  rw [hn] at e1 e2
  have g0 : mi (p * 9) = qi (p * 9) ∧ mk (p * 9) = qk (p * 9) ∧ mp (p * 9) = qp (p * 9) := mr_gk hR (p := p) (by omega) 0 (by omega)
  obtain ⟨g1, g2, g3⟩ := g0
  have R1 := mr_Rrem hR (p := p) (by omega) hl hn mr_Shf mr_Shf mr_Shf mr_Shf mr_Shf mr_Shf
  have M0 : mr_mok al (fun _ => False) st h p (qk (p * 9)) (qp (p * 9)) := hI.2.2.2.2.2.1 p 0 (by omega) (by omega)
  have hk36 : ∀ c, c < 36 → mr_tok (ty c) := fun c hc => mr_Ntok hI.1 hc
  obtain ⟨s2, q2⟩ := mr_lstE (fun n => ty (t * 9 + n) = 0) N
  have R2 : ¬ qk (p * 9) = 3 → mr_R (fun _ => False) 16 0 T P N Q al (mr_ul l p n) tx dx st S O ar (upd lx p (nI n)) h (mr_shf p n mi) (mr_shf p n mk) (mr_shf p n mp) ty dy (mr_shf p n qi) (mr_shf p n qk) (mr_shf p n qp) (upd ly p (nI n)) := fun a => mr_RW R1 (fun y _ => ⟨fun q => q.elim (fun b => b) (fun b => absurd b.1 a), fun q => Or.inl q⟩)
  rcases M0 with ⟨hk0, hz⟩ | ⟨x, hx, hz, kk⟩
  · have r := R2 (by rcases hk0 with a | a <;> rw [a] <;> decide)
    exact xm_rcA (kr := qk (p * 9)) ht b1 hm b4 X0 xd (by omega) n8 e1 (fun q hq => by rw [g2]; exact xm_kr0 hk0 hq) (fun q hq => xm_cr0 (hk0.elim Or.inl (fun a => Or.inr (Or.inl a))) hq) (ym_rcP (nn := 0) ht b1 hm b4 hr hd (by omega) b3 n8 e2 (fun q hq => ym_nn0 hk0 hq) q2 (fun _ => ym_129a (by omega) b3 n8 e2 hk0 ⟨g1.symm, mr_fin r g1 rfl rfl (g3.trans hz)⟩) (fun a => absurd rfl a) (fun a => absurd rfl a))
  · have x16 : x < 16 := by omega
    by_cases lx0 : mr_lv st x
    · rcases kk with k1 | k1 | ⟨k1, k2, k3, _⟩
      · -- a send right for a live port
        have r := R2 (by rw [k1]; decide)
        obtain ⟨s1, q1⟩ := mr_lstE (mr_rs ty dy t x) N
        have cn : ∀ q : Int32 → Prop, q (nI (if s1 = 0 then s2 else s1)) → wpX_copyoutName q (nI T, nI P, nI N, nI Q, dc, nI al, ic, tx, dx, st, S, O, ar, lx, h, mi, mk, mp, wl, rc) (nI t) 1 (mp (p * 9)) := fun q hq => by
          rw [g3, hz]
          exact xm_con (by omega) b4 hR.2.1 hk36 q1 q2 (by decide) hq
        have kr : ∀ q : Int32 → Prop, q 1 → wpX_kindReceived q (nI T, nI P, nI N, nI Q, dc, nI al, ic, tx, dx, st, S, O, ar, lx, h, mi, mk, mp, wl, rc) (mk (p * 9)) (mp (p * 9)) := fun q hq => by
          rw [g2, g3, hz, k1]
          exact xm_krl x16 lx0 (Or.inl rfl) hq
        have yn : ∀ q : Int32 → Prop, q (if s1 = 0 then 1 else 0) → wpY_needsNew q (nI T, nI P, nI N, nI Q, nI al, ic, rc 0, rc 1, rc 2, rc 3, ty, dy, st, S, O, ar, qi, qk, qp, ly, wl) (nI t) (qk (p * 9)) (qp (p * 9)) := fun q hq => by
          rw [hz, k1]
          exact ym_nn1 (by omega) b4 (by omega) b3 lx0 q1 hq
        by_cases z : (if s1 = 0 then s2 else s1) = 0
        · have z1 : s1 = 0 := by
            by_cases a : s1 = 0
            · exact a
            · rw [if_neg a] at z
              exact z
          have z2 : s2 = 0 := by
            rw [if_pos z1] at z
            exact z
          rw [if_pos z1] at yn
          refine xm_rcF ht b1 hm b4 X0 xd (by omega) n8 e1 kr (fun q hq => xm_cr1 (Or.inl rfl) hq) (fun q hq => cn q (by rw [z]; exact hq)) ?_
          exact ym_rcP ht b1 hm b4 hr hd (by omega) b3 n8 e2 yn q2 (fun a => absurd a mr_10) (fun _ _ => ⟨rfl, F⟩) (fun _ a => absurd z2 a)
        · obtain ⟨m2, hm2, e5⟩ := mr_tgt q1 q2 z
          obtain ⟨tx', dx', ty', dy', S', ar', ic', l', lx', mi', mk', mp', qi', qk', qp', ly', r', dX, dY⟩ := mr_cp1 r (fun q => absurd q (by omega)) ht hx lx0 q1 q2 e5 ic
          have fin : wY_receive_129 (fun r' v' => r' = mi (p * 9) ∧ i_Rel (k + 5) (nI T, nI P, nI N, nI Q, dc, nI al, ic', tx', dx', st, S', O, ar', lx', h, mi', mk', mp', wl, upd (upd (upd (upd rc 0 (mi (p * 9))) 1 1) 2 (nI (m2 + 1))) 3 (mp (p * 9))) v') (nI t) (nI p) (qi (p * 9)) (qk (p * 9)) (qp (p * 9)) (nI T) (nI P) (nI N) (nI Q) (nI al) ic (rc 0) (rc 1) (rc 2) (rc 3) ty dy st S O ar qi qk qp ly wl := by
            rw [hz, k1]
            exact ym_129s (by omega) b3 n8 e2 (Or.inl rfl) (by omega) lx0 (dY _ _ _ _ wl) ⟨g1.symm, mr_fin r' g1 rfl rfl (g3.trans hz)⟩
          refine xm_rcC ht b1 hm b4 X0 xd (by omega) n8 e1 kr (fun q hq => xm_cr1 (Or.inl rfl) hq) hm2 (fun q hq => cn q (by rw [e5]; exact hq)) (fun q hq => by rw [g3, hz]; exact dX dc wl rc q hq) ?_
          refine ym_rcP ht b1 hm b4 hr hd (by omega) b3 n8 e2 yn q2 (fun _ => fin) (fun a b => ?_) (fun _ _ => fin)
          exfalso
          by_cases c : s1 = 0
          · rw [if_pos c] at z
            exact z b
          · rw [if_neg c] at a
            exact a rfl
      · -- a send-once right for a live port
        have r := R2 (by rw [k1]; decide)
        have cn : ∀ q : Int32 → Prop, q (nI s2) → wpX_copyoutName q (nI T, nI P, nI N, nI Q, dc, nI al, ic, tx, dx, st, S, O, ar, lx, h, mi, mk, mp, wl, rc) (nI t) 2 (mp (p * 9)) := fun q hq => xm_cso (by omega) b4 hR.2.1 q2 hq
        have kr : ∀ q : Int32 → Prop, q 2 → wpX_kindReceived q (nI T, nI P, nI N, nI Q, dc, nI al, ic, tx, dx, st, S, O, ar, lx, h, mi, mk, mp, wl, rc) (mk (p * 9)) (mp (p * 9)) := fun q hq => by
          rw [g2, g3, hz, k1]
          exact xm_krl x16 lx0 (Or.inr (Or.inl rfl)) hq
        have yn : ∀ q : Int32 → Prop, q 1 → wpY_needsNew q (nI T, nI P, nI N, nI Q, nI al, ic, rc 0, rc 1, rc 2, rc 3, ty, dy, st, S, O, ar, qi, qk, qp, ly, wl) (nI t) (qk (p * 9)) (qp (p * 9)) := fun q hq => by
          rw [hz, k1]
          exact ym_nn2 (by omega) b3 lx0 hq
        rcases mr_lstL q2 with z | ⟨m2, hm2, e5, hz2⟩
        · refine xm_rcF ht b1 hm b4 X0 xd (by omega) n8 e1 kr (fun q hq => xm_cr1 (Or.inr (Or.inl rfl)) hq) (fun q hq => cn q (by rw [z]; exact hq)) ?_
          exact ym_rcP ht b1 hm b4 hr hd (by omega) b3 n8 e2 yn q2 (fun a => absurd a mr_10) (fun _ _ => ⟨rfl, F⟩) (fun _ a => absurd z a)
        · rw [e5] at q2 cn
          have r' := mr_Rso r hx lx0 ht hm2
          have fin : wY_receive_129 (fun r' v' => r' = mi (p * 9) ∧ i_Rel (k + 5) (nI T, nI P, nI N, nI Q, dc, nI al, ic, upd tx (t * 8 + m2) 4, upd dx (t * 8 + m2) (nI x), st, S, O, ar, upd lx p (nI n), h, mr_shf p n mi, mr_shf p n mk, mr_shf p n mp, wl, upd (upd (upd (upd rc 0 (mi (p * 9))) 1 2) 2 (nI (m2 + 1))) 3 (mp (p * 9))) v') (nI t) (nI p) (qi (p * 9)) (qk (p * 9)) (qp (p * 9)) (nI T) (nI P) (nI N) (nI Q) (nI al) ic (rc 0) (rc 1) (rc 2) (rc 3) ty dy st S O ar qi qk qp ly wl := by
            rw [hz, k1]
            exact ym_129s (by omega) b3 n8 e2 (Or.inr rfl) (by omega) lx0 (fun q hq => ym_co2 (by omega) hm2 b4 (by omega) b3 lx0 q2 hq) ⟨g1.symm, mr_fin r' g1 rfl rfl (g3.trans hz)⟩
          refine xm_rcC ht b1 hm b4 X0 xd (by omega) n8 e1 kr (fun q hq => xm_cr1 (Or.inr (Or.inl rfl)) hq) hm2 cn (fun q hq => by rw [g3, hz]; exact xm_co2 (by omega) (by omega) hq) ?_
          exact ym_rcP ht b1 hm b4 hr hd (by omega) b3 n8 e2 yn q2 (fun a => absurd a mr_10) (fun _ a => absurd a (by omega)) (fun _ _ => fin)
      · -- the receive right
        have r := mr_RW (W' := fun y => y = x) R1 (fun y hy => ⟨fun q => q.elim (fun b => absurd b (fun c => c)) (fun b => (mr_inj (hz.symm.trans b.2) (by omega) (by omega)).symm), fun q => Or.inr ⟨k1, by rw [q]; exact hz⟩⟩)
        obtain ⟨s1, q1⟩ := mr_lstE (mr_rs ty dy t x) N
        have q1' := mr_rsfs (by omega) hI.1 (by omega) b4 x16 k2 q1
        have cn : ∀ q : Int32 → Prop, q (nI (if s1 = 0 then s2 else s1)) → wpX_copyoutName q (nI T, nI P, nI N, nI Q, dc, nI al, ic, tx, dx, st, S, O, ar, lx, h, mi, mk, mp, wl, rc) (nI t) 3 (mp (p * 9)) := fun q hq => by
          rw [g3, hz]
          exact xm_con (by omega) b4 hR.2.1 hk36 q1 q2 (by decide) hq
        have kr : ∀ q : Int32 → Prop, q 3 → wpX_kindReceived q (nI T, nI P, nI N, nI Q, dc, nI al, ic, tx, dx, st, S, O, ar, lx, h, mi, mk, mp, wl, rc) (mk (p * 9)) (mp (p * 9)) := fun q hq => by
          rw [g2, g3, hz, k1]
          exact xm_krl x16 lx0 (Or.inr (Or.inr rfl)) hq
        have yn : ∀ q : Int32 → Prop, q (if s1 = 0 then 1 else 0) → wpY_needsNew q (nI T, nI P, nI N, nI Q, nI al, ic, rc 0, rc 1, rc 2, rc 3, ty, dy, st, S, O, ar, qi, qk, qp, ly, wl) (nI t) (qk (p * 9)) (qp (p * 9)) := fun q hq => by
          rw [hz, k1]
          exact ym_nn3 (by omega) b4 hk36 q1' hq
        by_cases z : (if s1 = 0 then s2 else s1) = 0
        · have z1 : s1 = 0 := by
            by_cases a : s1 = 0
            · exact a
            · rw [if_neg a] at z
              exact z
          have z2 : s2 = 0 := by
            rw [if_pos z1] at z
            exact z
          rw [if_pos z1] at yn
          refine xm_rcF ht b1 hm b4 X0 xd (by omega) n8 e1 kr (fun q hq => xm_cr1 (Or.inr (Or.inr rfl)) hq) (fun q hq => cn q (by rw [z]; exact hq)) ?_
          exact ym_rcP ht b1 hm b4 hr hd (by omega) b3 n8 e2 yn q2 (fun a => absurd a mr_10) (fun _ _ => ⟨rfl, F⟩) (fun _ a => absurd z2 a)
        · by_cases z1 : s1 = 0
          · rw [if_pos z1] at z cn yn
            rw [z1] at q1'
            rcases mr_lstL q2 with z0 | ⟨m2, hm2, e5, hz2⟩
            · exact absurd z0 z
            · rw [e5] at q2 cn
              have nn2 := hR.2.1 t m2 (by omega) (by omega)
              have x0 := nn2.1.trans hz2
              have r' := mr_Rrcv (v := 1) r (fun y _ => Iff.rfl) hx k2 ht hm2 (Or.inl rfl)
              have fin : wY_receive_129 (fun r' v' => r' = mi (p * 9) ∧ i_Rel (k + 5) (nI T, nI P, nI N, nI Q, dc, nI al, ic, upd tx (t * 8 + m2) 1, upd dx (t * 8 + m2) (nI x), upd st x 1, S, O, ar, upd lx p (nI n), h, mr_shf p n mi, mr_shf p n mk, mr_shf p n mp, wl, upd (upd (upd (upd rc 0 (mi (p * 9))) 1 3) 2 (nI (m2 + 1))) 3 (mp (p * 9))) v') (nI t) (nI p) (qi (p * 9)) (qk (p * 9)) (qp (p * 9)) (nI T) (nI P) (nI N) (nI Q) (nI al) ic (rc 0) (rc 1) (rc 2) (rc 3) ty dy st S O ar qi qk qp ly wl := by
                rw [hz, k1]
                exact ym_129r (by omega) b3 n8 e2 (fun q hq => ym_co3b (by omega) hm2 b4 (by omega) b3 hk36 q1' q2 hq) ⟨g1.symm, mr_fin r' g1 rfl rfl (g3.trans hz)⟩
              refine xm_rcC ht b1 hm b4 X0 xd (by omega) n8 e1 kr (fun q hq => xm_cr1 (Or.inr (Or.inr rfl)) hq) hm2 cn (fun q hq => by rw [g3, hz]; exact xm_co3 (v := 1) (by omega) (by omega) x16 (by rw [x0]; decide) hq) ?_
              exact ym_rcP ht b1 hm b4 hr hd (by omega) b3 n8 e2 yn q2 (fun a => absurd a mr_10) (fun _ a => absurd a (by omega)) (fun _ _ => fin)
          · rw [if_neg z1] at z cn yn
            rcases mr_lstL q1' with z0 | ⟨m2, hm2, e5, hz2⟩
            · exact absurd z0 z
            · rw [e5] at q1' cn
              have nn2 := hR.2.1 t m2 (by omega) (by omega)
              have y2 : ty (t * 9 + (m2 + 1)) = 2 := by
                rcases hz2.1 with a | a
                · exact a
                · obtain ⟨p', hp', hd', hs'⟩ := mr_Nr hI.1 (c := t * 9 + (m2 + 1)) (by omega) (Or.inr a)
                  have ee : p' = x := mr_inj (hd'.symm.trans hz2.2) (by omega) (by omega)
                  rw [ee, k2] at hs'
                  exact absurd hs' (by decide)
              have x2 := nn2.1.trans y2
              have r' := mr_Rrcv (v := 3) r (fun y _ => Iff.rfl) hx k2 ht hm2 (Or.inr rfl)
              have fin : wY_receive_129 (fun r' v' => r' = mi (p * 9) ∧ i_Rel (k + 5) (nI T, nI P, nI N, nI Q, dc, nI al, ic, upd tx (t * 8 + m2) 3, upd dx (t * 8 + m2) (nI x), upd st x 1, S, O, ar, upd lx p (nI n), h, mr_shf p n mi, mr_shf p n mk, mr_shf p n mp, wl, upd (upd (upd (upd rc 0 (mi (p * 9))) 1 3) 2 (nI (m2 + 1))) 3 (mp (p * 9))) v') (nI t) (nI p) (qi (p * 9)) (qk (p * 9)) (qp (p * 9)) (nI T) (nI P) (nI N) (nI Q) (nI al) ic (rc 0) (rc 1) (rc 2) (rc 3) ty dy st S O ar qi qk qp ly wl := by
                rw [hz, k1]
                exact ym_129r (by omega) b3 n8 e2 (fun q hq => ym_co3a (by omega) hm2 b4 (by omega) b3 hk36 q1' hz2.2 hq) ⟨g1.symm, mr_fin r' g1 rfl rfl (g3.trans hz)⟩
              refine xm_rcC ht b1 hm b4 X0 xd (by omega) n8 e1 kr (fun q hq => xm_cr1 (Or.inr (Or.inr rfl)) hq) hm2 cn (fun q hq => by rw [g3, hz]; exact xm_co3 (v := 3) (by omega) (by omega) x16 (by rw [x2]; decide) hq) ?_
              exact ym_rcP ht b1 hm b4 hr hd (by omega) b3 n8 e2 yn q2 (fun _ => fin) (fun a => absurd rfl a) (fun a => absurd rfl a)
    · have kk' : qk (p * 9) = 1 ∨ qk (p * 9) = 2 := by
        rcases kk with a | a | a
        · exact Or.inl a
        · exact Or.inr a
        · exact absurd (Or.inr a.2.1) lx0
      have r := R2 (by rcases kk' with a | a <;> rw [a] <;> decide)
      have fin : wY_receive_129 (fun r' v' => r' = mi (p * 9) ∧ i_Rel (k + 5) (nI T, nI P, nI N, nI Q, dc, nI al, ic, tx, dx, st, S, O, ar, upd lx p (nI n), h, mr_shf p n mi, mr_shf p n mk, mr_shf p n mp, wl, upd (upd (upd (upd rc 0 (mi (p * 9))) 1 5) 2 0) 3 (mp (p * 9))) v') (nI t) (nI p) (qi (p * 9)) (qk (p * 9)) (qp (p * 9)) (nI T) (nI P) (nI N) (nI Q) (nI al) ic (rc 0) (rc 1) (rc 2) (rc 3) ty dy st S O ar qi qk qp ly wl := by
        rw [hz]
        exact ym_129d (by omega) b3 n8 e2 kk' x16 lx0 ⟨g1.symm, mr_fin r g1 rfl rfl (g3.trans hz)⟩
      exact xm_rcA (kr := 5) ht b1 hm b4 X0 xd (by omega) n8 e1 (fun q hq => by rw [g2, g3, hz]; exact xm_krd x16 lx0 (kk'.elim Or.inl (fun a => Or.inr (Or.inl a))) hq) (fun q hq => xm_cr0 (Or.inr (Or.inr rfl)) hq) (ym_rcP (nn := 0) ht b1 hm b4 hr hd (by omega) b3 n8 e2 (fun q hq => by rw [hz]; exact ym_nnd x16 b3 lx0 kk' hq) q2 (fun _ => fin) (fun a => absurd rfl a) (fun a => absurd rfl a))
end
section
/-! send: the component's walks -/
/-- what the carried name must have for the disposition d -/
def mr_nd (d t : Int32) : Prop := ((d = 1 ∨ d = 4 ∨ d = 6) ∧ (t = 1 ∨ t = 3)) ∨ ((d = 2 ∨ d = 3) ∧ (t = 2 ∨ t = 3)) ∨ (d = 5 ∧ t = 4)
def mr_d16 (d : Int32) : Prop := d = 1 ∨ d = 2 ∨ d = 3 ∨ d = 4 ∨ d = 5 ∨ d = 6
theorem mr_d6 {y : Int32} (h0 : ¬ y < 0) (h6 : y ≤ 6) : y = 0 ∨ mr_d16 y := by
  obtain ⟨j, hj, e⟩ := nI_of2 (M := 6) (n := 6) (by decide) h0 h6
  rcases (show j = 0 ∨ j = 1 ∨ j = 2 ∨ j = 3 ∨ j = 4 ∨ j = 5 ∨ j = 6 by omega) with rfl | rfl | rfl | rfl | rfl | rfl | rfl
  · exact Or.inl e
  · exact Or.inr (Or.inl e)
  · exact Or.inr (Or.inr (Or.inl e))
  · exact Or.inr (Or.inr (Or.inr (Or.inl e)))
  · exact Or.inr (Or.inr (Or.inr (Or.inr (Or.inl e))))
  · exact Or.inr (Or.inr (Or.inr (Or.inr (Or.inr (Or.inl e)))))
  · exact Or.inr (Or.inr (Or.inr (Or.inr (Or.inr (Or.inr e)))))
theorem xm_nd {d t : Int32} (hd : mr_d16 d) (ht : mr_tok t) : ∃ nd, (∀ q : Int32 → Prop, q nd → wpX_typeNeeded q d) ∧ (t &&& nd = 0 ↔ ¬ mr_nd d t) := by
  unfold mr_nd
  rcases hd with rfl | rfl | rfl | rfl | rfl | rfl
  · refine ⟨1, fun q hq => br_t (by decide) hq, ?_⟩
    rcases ht with h | h | h | h | h | h <;> subst h <;> decide
  · refine ⟨2, fun q hq => br_f (by decide) (br_f (by decide) (br_t rfl hq)), ?_⟩
    rcases ht with h | h | h | h | h | h <;> subst h <;> decide
  · refine ⟨2, fun q hq => br_f (by decide) (br_f (by decide) (br_f (by decide) (br_t rfl hq))), ?_⟩
    rcases ht with h | h | h | h | h | h <;> subst h <;> decide
  · refine ⟨1, fun q hq => br_f (by decide) (br_f (by decide) (br_f (by decide) (br_f (by decide) (br_t rfl hq)))), ?_⟩
    rcases ht with h | h | h | h | h | h <;> subst h <;> decide
  · refine ⟨4, fun q hq => br_f (by decide) (br_f (by decide) (br_f (by decide) (br_f (by decide) (br_f (by decide) (br_t rfl hq))))), ?_⟩
    rcases ht with h | h | h | h | h | h <;> subst h <;> decide
  · refine ⟨1, fun q hq => br_f (by decide) (br_t (by decide) hq), ?_⟩
    rcases ht with h | h | h | h | h | h <;> subst h <;> decide
section
variable {W W' : Nat → Prop} {e off T P N Q al p n t m x c D : Nat} {l : Nat → Nat} {dc ic r0 r1 r2 r3 : Int32} {tx dx st S O ar lx h mi mk mp wl rc ty dy qi qk qp ly : Nat → Int32} {v w i k z : Int32}
variable {md mc : Nat} {d y3 cty cp kd : Int32} {tx' dx' st' S' O' h' : Nat → Int32}
theorem xm_127 {post : Int32 → Prop} (hD : D < 16) (h9 : n ≤ 9) (hl : lx D = nI n) (ho : n ≤ mr_oc mk (D * 9) n + 1) (hQ : Q ≤ 8) (h0 : mr_oc mk (D * 9) n < Q → post 0) (h4 : Q ≤ mr_oc mk (D * 9) n → post (-4)) : wX_sendRefusal_127 post (nI D) (nI T) (nI P) (nI N) (nI Q) dc (nI al) ic tx dx st S O ar lx h mi mk mp wl rc := by
  have o := mr_ocle mk (D * 9) n
  unfold wX_sendRefusal_127
  refine xm_oc hD h9 hl ho ?_
  by_cases z : mr_oc mk (D * 9) n < Q
  · exact br_t (nI_lt z (by omega)) (h0 z)
  · exact br_f (nI_nlt (by omega) (by omega)) (h4 (by omega))
theorem xm_91n {post : Int32 → Prop} (ht : t < T) (hT : T ≤ 4) (hm : md < N) (hN : N ≤ 8) (hd : dx (t * 8 + md) = nI D) (hcp : ∀ q : Int32 → Prop, q cp → wpX_namePort q (nI T, nI P, nI N, nI Q, dc, nI al, ic, tx, dx, st, S, O, ar, lx, h, mi, mk, mp, wl, rc) (nI t) y3) (h1 : ¬ d = 1) (hq : wX_sendRefusal_127 post (nI D) (nI T) (nI P) (nI N) (nI Q) dc (nI al) ic tx dx st S O ar lx h mi mk mp wl rc) : wX_sendRefusal_91 post (nI t) (nI (md + 1)) y3 d (nI T) (nI P) (nI N) (nI Q) dc (nI al) ic tx dx st S O ar lx h mi mk mp wl rc := by
  unfold wX_sendRefusal_91
  refine xm_np1 ht hT hm hN ?_
  rw [hd]
  exact hcp _ (br_f h1 hq)
theorem xm_91c {post : Int32 → Prop} {r : Nat} (ht : t < T) (hT : T ≤ 4) (hm : md < N) (hN : N ≤ 8) (hd : dx (t * 8 + md) = nI D) (hcp : ∀ q : Int32 → Prop, q (nI c) → wpX_namePort q (nI T, nI P, nI N, nI Q, dc, nI al, ic, tx, dx, st, S, O, ar, lx, h, mi, mk, mp, wl, rc) (nI t) y3) (hc : c < 16) (hD : mr_rc st h r D) (h6 : mr_on h c r D → post (-6)) (h0 : ¬ mr_on h c r D → wX_sendRefusal_127 post (nI D) (nI T) (nI P) (nI N) (nI Q) dc (nI al) ic tx dx st S O ar lx h mi mk mp wl rc) : wX_sendRefusal_91 post (nI t) (nI (md + 1)) y3 1 (nI T) (nI P) (nI N) (nI Q) dc (nI al) ic tx dx st S O ar lx h mi mk mp wl rc := by
  unfold wX_sendRefusal_91
  refine xm_np1 ht hT hm hN ?_
  rw [hd]
  refine hcp _ (br_t rfl ?_)
  exact xm_cy hc hD (fun a => br_f mr_10 (h6 a)) (fun a => br_t rfl (h0 a))
theorem xm_71 {post : Int32 → Prop} {y2 : Int32} (hs : (d = 2 ∨ d = 5) → y3 = y2 → post (-3)) (hq : ¬ ((d = 2 ∨ d = 5) ∧ y3 = y2) → wX_sendRefusal_91 post (nI t) y2 y3 d (nI T) (nI P) (nI N) (nI Q) dc (nI al) ic tx dx st S O ar lx h mi mk mp wl rc) : wX_sendRefusal_71 post (nI t) y2 y3 d (nI T) (nI P) (nI N) (nI Q) dc (nI al) ic tx dx st S O ar lx h mi mk mp wl rc := by
  have G : (d = 2 ∨ d = 5) → wX_sendRefusal_83 post (nI t) y2 y3 d (nI T) (nI P) (nI N) (nI Q) dc (nI al) ic tx dx st S O ar lx h mi mk mp wl rc := by
    intro a
    by_cases z : y3 = y2
    · exact br_t z (hs a z)
    · exact br_f z (hq (fun b => z b.2))
  by_cases z1 : d = 2
  · exact br_t z1 (G (Or.inl z1))
  · by_cases z2 : d = 5
    · exact br_f z1 (br_t z2 (G (Or.inr z2)))
    · exact br_f z1 (br_f z2 (hq (fun b => b.1.elim z1 z2)))
theorem xm_srT {post : Int32 → Prop} {y y2 y4 : Int32} (hy : y < 0 ∨ nI T ≤ y) (hp : post (-1)) : wpX_sendRefusal post (nI T, nI P, nI N, nI Q, dc, nI al, ic, tx, dx, st, S, O, ar, lx, h, mi, mk, mp, wl, rc) y y2 y3 y4 := by
  unfold wpX_sendRefusal
  exact xm_task0 hy (br_t rfl hp)
theorem xm_srN {post : Int32 → Prop} {y2 y4 : Int32} (ht : t < T) (hT : T ≤ 4) (hy : y2 < 1 ∨ nI N < y2) (hp : post (-2)) : wpX_sendRefusal post (nI T, nI P, nI N, nI Q, dc, nI al, ic, tx, dx, st, S, O, ar, lx, h, mi, mk, mp, wl, rc) (nI t) y2 y3 y4 := by
  unfold wpX_sendRefusal
  refine xm_task1 ht hT (br_f mr_10 ?_)
  exact xm_nt0 ht hT hy (br_t (by decide) hp)
theorem xm_srF {post : Int32 → Prop} {y4 : Int32} (ht : t < T) (hT : T ≤ 4) (hm : md < N) (hN : N ≤ 8) (h0 : tx (t * 8 + md) &&& 6 = 0) (hp : post (-2)) : wpX_sendRefusal post (nI T, nI P, nI N, nI Q, dc, nI al, ic, tx, dx, st, S, O, ar, lx, h, mi, mk, mp, wl, rc) (nI t) (nI (md + 1)) y3 y4 := by
  unfold wpX_sendRefusal
  refine xm_task1 ht hT (br_f mr_10 ?_)
  exact xm_nt1 ht hT hm hN (br_t h0 hp)
theorem xm_srD {post : Int32 → Prop} {y4 : Int32} (ht : t < T) (hT : T ≤ 4) (hm : md < N) (hN : N ≤ 8) (h0 : ¬ tx (t * 8 + md) &&& 6 = 0) (hy : y4 < 0 ∨ ¬ y4 ≤ 6) (hp : post (-3)) : wpX_sendRefusal post (nI T, nI P, nI N, nI Q, dc, nI al, ic, tx, dx, st, S, O, ar, lx, h, mi, mk, mp, wl, rc) (nI t) (nI (md + 1)) y3 y4 := by
  unfold wpX_sendRefusal
  refine xm_task1 ht hT (br_f mr_10 ?_)
  refine xm_nt1 ht hT hm hN (br_f h0 ?_)
  by_cases z : y4 < 0
  · exact br_t z hp
  · exact br_f z (br_f (hy.resolve_left z) hp)
theorem xm_sr0 {post : Int32 → Prop} (ht : t < T) (hT : T ≤ 4) (hm : md < N) (hN : N ≤ 8) (h0 : ¬ tx (t * 8 + md) &&& 6 = 0) (hct : ∀ q : Int32 → Prop, q cty → wpX_nameType q (nI T, nI P, nI N, nI Q, dc, nI al, ic, tx, dx, st, S, O, ar, lx, h, mi, mk, mp, wl, rc) (nI t) y3) (hq : wX_sendRefusal_71 post (nI t) (nI (md + 1)) y3 0 (nI T) (nI P) (nI N) (nI Q) dc (nI al) ic tx dx st S O ar lx h mi mk mp wl rc) : wpX_sendRefusal post (nI T, nI P, nI N, nI Q, dc, nI al, ic, tx, dx, st, S, O, ar, lx, h, mi, mk, mp, wl, rc) (nI t) (nI (md + 1)) y3 0 := by
  unfold wpX_sendRefusal
  refine xm_task1 ht hT (br_f mr_10 ?_)
  refine xm_nt1 ht hT hm hN (br_f h0 (br_f (by decide) (br_t (by decide) ?_)))
  exact hct _ (br_t rfl hq)
theorem xm_sr6 {post : Int32 → Prop} (ht : t < T) (hT : T ≤ 4) (hm : md < N) (hN : N ≤ 8) (h0 : ¬ tx (t * 8 + md) &&& 6 = 0) (hd : mr_d16 d) (hk : mr_tok cty) (hct : ∀ q : Int32 → Prop, q cty → wpX_nameType q (nI T, nI P, nI N, nI Q, dc, nI al, ic, tx, dx, st, S, O, ar, lx, h, mi, mk, mp, wl, rc) (nI t) y3) (h2 : ¬ mr_nd d cty → post (-2)) (hq : mr_nd d cty → wX_sendRefusal_71 post (nI t) (nI (md + 1)) y3 d (nI T) (nI P) (nI N) (nI Q) dc (nI al) ic tx dx st S O ar lx h mi mk mp wl rc) : wpX_sendRefusal post (nI T, nI P, nI N, nI Q, dc, nI al, ic, tx, dx, st, S, O, ar, lx, h, mi, mk, mp, wl, rc) (nI t) (nI (md + 1)) y3 d := by
  have d1 : ¬ d < 0 ∧ d ≤ 6 ∧ ¬ d = 0 := by
    rcases hd with rfl | rfl | rfl | rfl | rfl | rfl <;> decide
  obtain ⟨nd, n1, n2⟩ := xm_nd hd hk
  unfold wpX_sendRefusal
  refine xm_task1 ht hT (br_f mr_10 ?_)
  refine xm_nt1 ht hT hm hN (br_f h0 (br_f d1.1 (br_t d1.2.1 ?_)))
  refine hct _ (br_f d1.2.2 (n1 _ ?_))
  by_cases z : mr_nd d cty
  · exact br_f (fun a => n2.mp a z) (hq z)
  · exact br_t (n2.mpr z) (h2 z)
/-! what is taken from the carried name -/
theorem xm_tk1 {post : SX → Prop} (hc : n < 32) (h16 : c < 16) (hv : (tx n = 1 ∧ v = 0 ∧ w = -1) ∨ (tx n = 3 ∧ v = 2 ∧ w = dx n)) (hp : post (nI T, nI P, nI N, nI Q, dc, nI al, ic, upd tx n v, upd dx n w, upd st c 2, S, O, ar, lx, upd h c z, mi, mk, mp, wl, rc)) : wpX_takeCarried post (nI T, nI P, nI N, nI Q, dc, nI al, ic, tx, dx, st, S, O, ar, lx, h, mi, mk, mp, wl, rc) (nI n) (nI c) 1 z := by
  have v1 : vp_in (nI c) 16 := vp_in_nI h16 (by omega)
  have c1 : (nI c).toNatClampNeg = c := nI_clamp (by omega)
  unfold wpX_takeCarried
  refine br_f (by decide) (br_f (by decide) (br_t rfl ?_))
  rcases hv with ⟨a, rfl, rfl⟩ | ⟨a, rfl, rfl⟩
  · exact xm_lose0 hc (by rw [a]; decide) ⟨v1, nm_r (e' := upd st c 2) (by rw [c1]) ⟨v1, nm_r (e' := upd h c z) (by rw [c1]) hp⟩⟩
  · rw [mr_ui rfl] at hp
    exact xm_lose1 (w := 2) hc (by rw [a]; decide) (by decide) ⟨v1, nm_r (e' := upd st c 2) (by rw [c1]) ⟨v1, nm_r (e' := upd h c z) (by rw [c1]) hp⟩⟩
theorem xm_tk2 {post : SX → Prop} {y : Int32} (hc : n < 32) (hv : (tx n = 2 ∧ v = 0 ∧ w = -1) ∨ (tx n = 3 ∧ v = 1 ∧ w = dx n)) (hp : post (nI T, nI P, nI N, nI Q, dc, nI al, ic, upd tx n v, upd dx n w, st, S, O, ar, lx, h, mi, mk, mp, wl, rc)) : wpX_takeCarried post (nI T, nI P, nI N, nI Q, dc, nI al, ic, tx, dx, st, S, O, ar, lx, h, mi, mk, mp, wl, rc) (nI n) y 2 z := by
  unfold wpX_takeCarried
  refine br_f (by decide) (br_f (by decide) (br_f (by decide) (br_t rfl ?_)))
  rcases hv with ⟨a, rfl, rfl⟩ | ⟨a, rfl, rfl⟩
  · exact xm_lose0 hc (by rw [a]; decide) hp
  · rw [mr_ui rfl] at hp
    exact xm_lose1 (w := 1) hc (by rw [a]; decide) (by decide) hp
theorem xm_tk3 {post : SX → Prop} {y : Int32} (h16 : c < 16) (hd : d = 3 ∨ d = 4) (hp : post (nI T, nI P, nI N, nI Q, dc, nI al, ic, tx, dx, st, upd S c (S c + 1), O, ar, lx, h, mi, mk, mp, wl, rc)) : wpX_takeCarried post (nI T, nI P, nI N, nI Q, dc, nI al, ic, tx, dx, st, S, O, ar, lx, h, mi, mk, mp, wl, rc) y (nI c) d z := by
  have v1 : vp_in (nI c) 16 := vp_in_nI h16 (by omega)
  have c1 : (nI c).toNatClampNeg = c := nI_clamp (by omega)
  have G : wX_takeCarried_73 post (nI c) (nI T) (nI P) (nI N) (nI Q) dc (nI al) ic tx dx st S O ar lx h mi mk mp wl rc := ⟨v1, v1, nm_r (e' := upd S c (S c + 1)) (by rw [c1]) hp⟩
  unfold wpX_takeCarried
  rcases hd with rfl | rfl
  · exact br_f (by decide) (br_f (by decide) (br_f (by decide) (br_f (by decide) (br_t rfl G))))
  · exact br_f (by decide) (br_f (by decide) (br_f (by decide) (br_f (by decide) (br_f (by decide) (br_t rfl G)))))
theorem xm_tk5 {post : SX → Prop} {y : Int32} (hc : n < 32) (hp : post (nI T, nI P, nI N, nI Q, dc, nI al, ic, upd tx n 0, upd dx n (-1), st, S, O, ar, lx, h, mi, mk, mp, wl, rc)) : wpX_takeCarried post (nI T, nI P, nI N, nI Q, dc, nI al, ic, tx, dx, st, S, O, ar, lx, h, mi, mk, mp, wl, rc) (nI n) y 5 z := by
  unfold wpX_takeCarried
  refine br_f (by decide) (br_f (by decide) (br_f (by decide) (br_f (by decide) (br_f (by decide) (br_f (by decide) (br_t rfl ?_))))))
  exact xm_free hc hp
theorem xm_tk6 {post : SX → Prop} {y : Int32} (h16 : c < 16) (hp : post (nI T, nI P, nI N, nI Q, dc, nI al, ic, tx, dx, st, S, upd O c (O c + 1), ar, lx, h, mi, mk, mp, wl, rc)) : wpX_takeCarried post (nI T, nI P, nI N, nI Q, dc, nI al, ic, tx, dx, st, S, O, ar, lx, h, mi, mk, mp, wl, rc) y (nI c) 6 z := by
  have v1 : vp_in (nI c) 16 := vp_in_nI h16 (by omega)
  have c1 : (nI c).toNatClampNeg = c := nI_clamp (by omega)
  unfold wpX_takeCarried
  exact br_f (by decide) (br_f (by decide) (br_f (by decide) (br_f (by decide) (br_f (by decide) (br_f (by decide) (br_f (by decide) (br_t rfl ⟨v1, v1, nm_r (e' := upd O c (O c + 1)) (by rw [c1]) hp⟩)))))))
theorem xm_ko {post : Int32 → Prop} (hd : (d = 0 ∧ kd = 0) ∨ (d = 1 ∧ kd = 3) ∨ ((d = 2 ∨ d = 3 ∨ d = 4) ∧ kd = 1) ∨ ((d = 5 ∨ d = 6) ∧ kd = 2)) (hp : post kd) : wpX_kindOf post d := by
  unfold wpX_kindOf
  rcases hd with ⟨rfl, rfl⟩ | ⟨rfl, rfl⟩ | ⟨rfl | rfl | rfl, rfl⟩ | ⟨rfl | rfl, rfl⟩
  · exact br_t (by decide) hp
  · exact br_f (by decide) (br_f (by decide) (br_t rfl hp))
  · exact br_f (by decide) (br_f (by decide) (br_f (by decide) (br_t rfl hp)))
  · exact br_f (by decide) (br_f (by decide) (br_f (by decide) (br_f (by decide) (br_t rfl hp))))
  · exact br_f (by decide) (br_f (by decide) (br_f (by decide) (br_f (by decide) (br_f (by decide) (br_t rfl hp)))))
  · exact br_f (by decide) (br_f (by decide) (br_f (by decide) (br_f (by decide) (br_f (by decide) (br_f (by decide) (br_t rfl hp))))))
  · exact br_f (by decide) (br_f (by decide) (br_f (by decide) (br_f (by decide) (br_f (by decide) (br_f (by decide) (br_f (by decide) (br_t rfl hp)))))))
theorem xm_94 {post : Int32 → SX → Prop} (hD : D < 16) (hn : n ≤ 8) (hl : lx D = nI n) (hd : (d = 0 ∧ kd = 0) ∨ (d = 1 ∧ kd = 3) ∨ ((d = 2 ∨ d = 3 ∨ d = 4) ∧ kd = 1) ∨ ((d = 5 ∨ d = 6) ∧ kd = 2)) (hp : post (ic + 1) (nI T, nI P, nI N, nI Q, dc, nI al, ic + 1, tx, dx, st, S, O, ar, upd lx D (nI (n + 1)), h, upd mi (D * 9 + n) (ic + 1), upd mk (D * 9 + n) kd, upd mp (D * 9 + n) z, wl, rc)) : wX_send_94 post d (nI D) z (nI T) (nI P) (nI N) (nI Q) dc (nI al) ic tx dx st S O ar lx h mi mk mp wl rc := by
  unfold wX_send_94
  refine xm_ko hd ?_
  exact xm_append hD hn hl hp
theorem xm_580 {post : Int32 → SX → Prop} (hp : wX_send_94 post 0 (nI D) (-1) (nI T) (nI P) (nI N) (nI Q) dc (nI al) ic tx dx st S O ar lx h mi mk mp wl rc) : wX_send_58 post (nI t) y3 0 (nI D) (nI T) (nI P) (nI N) (nI Q) dc (nI al) ic tx dx st S O ar lx h mi mk mp wl rc := br_t rfl hp
theorem xm_586 {post : Int32 → SX → Prop} (ht : t < 4) (hm : mc < 8) (hd : mr_d16 d) (hc : dx (t * 8 + mc) = nI c) (hX : ∀ q : SX → Prop, q (nI T, nI P, nI N, nI Q, dc, nI al, ic, tx', dx', st', S', O', ar, lx, h', mi, mk, mp, wl, rc) → wpX_takeCarried q (nI T, nI P, nI N, nI Q, dc, nI al, ic, tx, dx, st, S, O, ar, lx, h, mi, mk, mp, wl, rc) (nI (t * 8 + mc)) (nI c) d (nI D)) (hp : wX_send_94 post d (nI D) (nI c) (nI T) (nI P) (nI N) (nI Q) dc (nI al) ic tx' dx' st' S' O' ar lx h' mi mk mp wl rc) : wX_send_58 post (nI t) (nI (mc + 1)) d (nI D) (nI T) (nI P) (nI N) (nI Q) dc (nI al) ic tx dx st S O ar lx h mi mk mp wl rc := by
  have d0 : ¬ d = 0 := by
    rcases hd with rfl | rfl | rfl | rfl | rfl | rfl <;> decide
  refine br_f d0 ?_
  refine xm_cell ⟨vp_in_nI (by omega) (by omega), nm_r (e' := nI c) (by rw [nI_clamp (by omega)]; exact hc) ?_⟩
  exact hX _ hp
theorem xm_sendE {post : Int32 → SX → Prop} {y y2 y4 : Int32} (hs : ∀ q : Int32 → Prop, q v → wpX_sendRefusal q (nI T, nI P, nI N, nI Q, dc, nI al, ic, tx, dx, st, S, O, ar, lx, h, mi, mk, mp, wl, rc) y y2 y3 y4) (hv : ¬ v = 0) (hp : post v (nI T, nI P, nI N, nI Q, dc, nI al, ic, tx, dx, st, S, O, ar, lx, h, mi, mk, mp, wl, rc)) : wpX_send post (nI T, nI P, nI N, nI Q, dc, nI al, ic, tx, dx, st, S, O, ar, lx, h, mi, mk, mp, wl, rc) y y2 y3 y4 := by
  unfold wpX_send
  exact hs _ (br_f hv hp)
theorem xm_sendA {post : Int32 → SX → Prop} (ht : t < 4) (hm : md < 8) (hs : ∀ q : Int32 → Prop, q 0 → wpX_sendRefusal q (nI T, nI P, nI N, nI Q, dc, nI al, ic, tx, dx, st, S, O, ar, lx, h, mi, mk, mp, wl, rc) (nI t) (nI (md + 1)) y3 d) (h4 : ¬ tx (t * 8 + md) = 4) (hd : dx (t * 8 + md) = nI D) (hp : wX_send_58 post (nI t) y3 d (nI D) (nI T) (nI P) (nI N) (nI Q) dc (nI al) ic tx dx st S O ar lx h mi mk mp wl rc) : wpX_send post (nI T, nI P, nI N, nI Q, dc, nI al, ic, tx, dx, st, S, O, ar, lx, h, mi, mk, mp, wl, rc) (nI t) (nI (md + 1)) y3 d := by
  have v1 : vp_in (nI (t * 8 + md)) 32 := vp_in_nI (by omega) (by omega)
  have c1 : (nI (t * 8 + md)).toNatClampNeg = t * 8 + md := nI_clamp (by omega)
  unfold wpX_send
  refine hs _ (br_t rfl ?_)
  exact xm_cell ⟨v1, nm_r (e' := nI D) (by rw [c1]; exact hd) ⟨v1, br_f (by rw [c1]; exact h4) hp⟩⟩
theorem xm_sendB {post : Int32 → SX → Prop} (ht : t < 4) (hm : md < 8) (hs : ∀ q : Int32 → Prop, q 0 → wpX_sendRefusal q (nI T, nI P, nI N, nI Q, dc, nI al, ic, tx, dx, st, S, O, ar, lx, h, mi, mk, mp, wl, rc) (nI t) (nI (md + 1)) y3 d) (h4 : tx (t * 8 + md) = 4) (hd : dx (t * 8 + md) = nI D) (hD : D < 16) (hl : mr_lv st D) (hp : wX_send_58 post (nI t) y3 d (nI D) (nI T) (nI P) (nI N) (nI Q) dc (nI al) ic (upd tx (t * 8 + md) 0) (upd dx (t * 8 + md) (-1)) st S (upd O D (O D - 1)) ar lx h mi mk mp wl rc) : wpX_send post (nI T, nI P, nI N, nI Q, dc, nI al, ic, tx, dx, st, S, O, ar, lx, h, mi, mk, mp, wl, rc) (nI t) (nI (md + 1)) y3 d := by
  have v1 : vp_in (nI (t * 8 + md)) 32 := vp_in_nI (by omega) (by omega)
  have c1 : (nI (t * 8 + md)).toNatClampNeg = t * 8 + md := nI_clamp (by omega)
  unfold wpX_send
  refine hs _ (br_t rfl ?_)
  refine xm_cell ⟨v1, nm_r (e' := nI D) (by rw [c1]; exact hd) ⟨v1, br_t (by rw [c1]; exact h4) ?_⟩⟩
  refine xm_free (by omega) ?_
  exact xm_so1 hD hl hp
end
end
section
/-! send: the reference's walks -/
section
variable {W W' : Nat → Prop} {e off T P N Q al p n t m x c D : Nat} {l : Nat → Nat} {dc ic r0 r1 r2 r3 : Int32} {tx dx st S O ar lx h mi mk mp wl rc ty dy qi qk qp ly : Nat → Int32} {v w i k z : Int32}
variable {md mc : Nat} {d y2 y3 y5 y6 y7 y8 : Int32}
theorem ym_sdT {post : Int32 → SY → Prop} {y y4 : Int32} (hy : y < 0 ∨ nI T ≤ y) (hp : post (-1) (nI T, nI P, nI N, nI Q, nI al, ic, r0, r1, r2, r3, ty, dy, st, S, O, ar, qi, qk, qp, ly, wl)) : wpY_send post (nI T, nI P, nI N, nI Q, nI al, ic, r0, r1, r2, r3, ty, dy, st, S, O, ar, qi, qk, qp, ly, wl) y y2 y3 y4 := by
  unfold wpY_send
  exact ym_task0 hy (br_t rfl hp)
theorem ym_sdN {post : Int32 → SY → Prop} {y4 : Int32} (ht : t < T) (hT : T ≤ 4) (hy : y2 < 1 ∨ nI N < y2) (hp : post (-2) (nI T, nI P, nI N, nI Q, nI al, ic, r0, r1, r2, r3, ty, dy, st, S, O, ar, qi, qk, qp, ly, wl)) : wpY_send post (nI T, nI P, nI N, nI Q, nI al, ic, r0, r1, r2, r3, ty, dy, st, S, O, ar, qi, qk, qp, ly, wl) (nI t) y2 y3 y4 := by
  unfold wpY_send
  refine ym_task1 ht hT (br_f mr_10 ?_)
  exact ym_name0 hy (br_t rfl hp)
theorem ym_sdF {post : Int32 → SY → Prop} {y4 : Int32} (ht : t < T) (hT : T ≤ 4) (hm : md < N) (hN : N ≤ 8) (h0 : ¬ (ty (t * 9 + (md + 1)) = 2 ∨ ty (t * 9 + (md + 1)) = 3 ∨ ty (t * 9 + (md + 1)) = 4)) (hp : post (-2) (nI T, nI P, nI N, nI Q, nI al, ic, r0, r1, r2, r3, ty, dy, st, S, O, ar, qi, qk, qp, ly, wl)) : wpY_send post (nI T, nI P, nI N, nI Q, nI al, ic, r0, r1, r2, r3, ty, dy, st, S, O, ar, qi, qk, qp, ly, wl) (nI t) (nI (md + 1)) y3 y4 := by
  unfold wpY_send
  refine ym_task1 ht hT (br_f mr_10 ?_)
  refine ym_name1 hm hN (br_f mr_10 (nm_r mr_yc ⟨vp_in_nI (by omega) (by omega), nm_r (e' := ty (t * 9 + (md + 1))) (by rw [nI_clamp (by omega)]) ?_⟩))
  exact br_f (fun a => h0 (Or.inl a)) (br_f (fun a => h0 (Or.inr (Or.inl a))) (br_f (fun a => h0 (Or.inr (Or.inr a))) hp))
theorem ym_sd0 {post : Int32 → SY → Prop} {y4 : Int32} (ht : t < T) (hT : T ≤ 4) (hm : md < N) (hN : N ≤ 8) (h0 : ty (t * 9 + (md + 1)) = 2 ∨ ty (t * 9 + (md + 1)) = 3 ∨ ty (t * 9 + (md + 1)) = 4) (hp : wY_send_59 post (nI t) (nI (md + 1)) y3 y4 (nI (t * 9 + (md + 1))) (ty (t * 9 + (md + 1))) (nI T) (nI P) (nI N) (nI Q) (nI al) ic r0 r1 r2 r3 ty dy st S O ar qi qk qp ly wl) : wpY_send post (nI T, nI P, nI N, nI Q, nI al, ic, r0, r1, r2, r3, ty, dy, st, S, O, ar, qi, qk, qp, ly, wl) (nI t) (nI (md + 1)) y3 y4 := by
  unfold wpY_send
  refine ym_task1 ht hT (br_f mr_10 ?_)
  refine ym_name1 hm hN (br_f mr_10 (nm_r mr_yc ⟨vp_in_nI (by omega) (by omega), nm_r (e' := ty (t * 9 + (md + 1))) (by rw [nI_clamp (by omega)]) ?_⟩))
  by_cases z1 : ty (t * 9 + (md + 1)) = 2
  · exact br_t z1 hp
  · by_cases z2 : ty (t * 9 + (md + 1)) = 3
    · exact br_f z1 (br_t z2 hp)
    · exact br_f z1 (br_f z2 (br_t ((h0.resolve_left z1).resolve_left z2) hp))
theorem ym_59D {post : Int32 → SY → Prop} {y4 : Int32} (hy : y4 < 0 ∨ ¬ y4 ≤ 6) (hp : post (-3) (nI T, nI P, nI N, nI Q, nI al, ic, r0, r1, r2, r3, ty, dy, st, S, O, ar, qi, qk, qp, ly, wl)) : wY_send_59 post (nI t) y2 y3 y4 y5 y6 (nI T) (nI P) (nI N) (nI Q) (nI al) ic r0 r1 r2 r3 ty dy st S O ar qi qk qp ly wl := by
  by_cases z : y4 < 0
  · exact br_t z hp
  · exact br_f z (br_f (hy.resolve_left z) hp)
theorem ym_590 {post : Int32 → SY → Prop} (hp : wY_send_188 post y2 y3 0 y5 y6 (-1) 0 (nI T) (nI P) (nI N) (nI Q) (nI al) ic r0 r1 r2 r3 ty dy st S O ar qi qk qp ly wl) : wY_send_59 post (nI t) y2 y3 0 y5 y6 (nI T) (nI P) (nI N) (nI Q) (nI al) ic r0 r1 r2 r3 ty dy st S O ar qi qk qp ly wl :=
  br_f (by decide) (br_t (by decide) (br_t rfl hp))
theorem ym_59N {post : Int32 → SY → Prop} (hd : mr_d16 d) (hy : y3 < 1 ∨ nI N < y3) (hp : post (-2) (nI T, nI P, nI N, nI Q, nI al, ic, r0, r1, r2, r3, ty, dy, st, S, O, ar, qi, qk, qp, ly, wl)) : wY_send_59 post (nI t) y2 y3 d y5 y6 (nI T) (nI P) (nI N) (nI Q) (nI al) ic r0 r1 r2 r3 ty dy st S O ar qi qk qp ly wl := by
  have d1 : ¬ d < 0 ∧ d ≤ 6 ∧ ¬ d = 0 := by
    rcases hd with rfl | rfl | rfl | rfl | rfl | rfl <;> decide
  refine br_f d1.1 (br_t d1.2.1 (br_f d1.2.2 ?_))
  exact ym_name0 hy (br_t rfl hp)
theorem ym_596 {post : Int32 → SY → Prop} (ht : t < 4) (hm : mc < N) (hN : N ≤ 8) (hd : mr_d16 d) (hk : mr_tok (ty (t * 9 + (mc + 1)))) (h2 : ¬ mr_nd d (ty (t * 9 + (mc + 1))) → post (-2) (nI T, nI P, nI N, nI Q, nI al, ic, r0, r1, r2, r3, ty, dy, st, S, O, ar, qi, qk, qp, ly, wl)) (hq : mr_nd d (ty (t * 9 + (mc + 1))) → wY_send_188 post y2 (nI (mc + 1)) d y5 y6 (dy (t * 9 + (mc + 1))) (nI (t * 9 + (mc + 1))) (nI T) (nI P) (nI N) (nI Q) (nI al) ic r0 r1 r2 r3 ty dy st S O ar qi qk qp ly wl) : wY_send_59 post (nI t) y2 (nI (mc + 1)) d y5 y6 (nI T) (nI P) (nI N) (nI Q) (nI al) ic r0 r1 r2 r3 ty dy st S O ar qi qk qp ly wl := by
  have d1 : ¬ d < 0 ∧ d ≤ 6 ∧ ¬ d = 0 := by
    rcases hd with rfl | rfl | rfl | rfl | rfl | rfl <;> decide
  have vc : vp_in (nI (t * 9 + (mc + 1))) 36 := vp_in_nI (by omega) (by omega)
  have cc : (nI (t * 9 + (mc + 1))).toNatClampNeg = t * 9 + (mc + 1) := nI_clamp (by omega)
  have G : mr_nd d (ty (t * 9 + (mc + 1))) → wY_send_179 post y2 (nI (mc + 1)) d y5 y6 (nI (t * 9 + (mc + 1))) (nI T) (nI P) (nI N) (nI Q) (nI al) ic r0 r1 r2 r3 ty dy st S O ar qi qk qp ly wl := fun a => ⟨vc, nm_r (e' := dy (t * 9 + (mc + 1))) (by rw [cc]) (hq a)⟩
  refine br_f d1.1 (br_t d1.2.1 (br_f d1.2.2 ?_))
  refine ym_name1 hm hN (br_f mr_10 (nm_r mr_yc ⟨vc, nm_r (e' := ty (t * 9 + (mc + 1))) (by rw [cc]) ?_⟩))
  have a1 := mr_a1 hk
  have a2 := mr_a2 hk
  unfold mr_nd at G h2
  have A : (d = 1 ∨ d = 4 ∨ d = 6) → wY_send_132 post y2 (nI (mc + 1)) d y5 y6 (nI (t * 9 + (mc + 1))) (ty (t * 9 + (mc + 1))) (nI T) (nI P) (nI N) (nI Q) (nI al) ic r0 r1 r2 r3 ty dy st S O ar qi qk qp ly wl := by
    intro q
    have n5 : ¬ d = 5 := by rcases q with rfl | rfl | rfl <;> decide
    have n2 : ¬ d = 2 := by rcases q with rfl | rfl | rfl <;> decide
    have n3 : ¬ d = 3 := by rcases q with rfl | rfl | rfl <;> decide
    by_cases z : ty (t * 9 + (mc + 1)) &&& 1 = 0
    · refine br_t z (h2 (fun b => ?_))
      rcases b with b | b | b
      · exact a1.mp z b.2
      · exact b.1.elim n2 n3
      · exact n5 b.1
    · have b : ty (t * 9 + (mc + 1)) = 1 ∨ ty (t * 9 + (mc + 1)) = 3 := Classical.byContradiction (fun c => z (a1.mpr c))
      exact br_f z (br_f n2 (br_f n3 (br_f n5 (G (Or.inl ⟨q, b⟩)))))
  have B : ¬ (d = 1 ∨ d = 4 ∨ d = 6) → wY_send_142 post y2 (nI (mc + 1)) d y5 y6 (nI (t * 9 + (mc + 1))) (ty (t * 9 + (mc + 1))) (nI T) (nI P) (nI N) (nI Q) (nI al) ic r0 r1 r2 r3 ty dy st S O ar qi qk qp ly wl := by
    intro q
    have C : (d = 2 ∨ d = 3) → wY_send_154 post y2 (nI (mc + 1)) d y5 y6 (nI (t * 9 + (mc + 1))) (ty (t * 9 + (mc + 1))) (nI T) (nI P) (nI N) (nI Q) (nI al) ic r0 r1 r2 r3 ty dy st S O ar qi qk qp ly wl := by
      intro q2
      have n5 : ¬ d = 5 := by rcases q2 with rfl | rfl <;> decide
      by_cases z : ty (t * 9 + (mc + 1)) &&& 2 = 0
      · refine br_t z (h2 (fun b => ?_))
        rcases b with b | b | b
        · exact q b.1
        · exact a2.mp z b.2
        · exact n5 b.1
      · have b : ty (t * 9 + (mc + 1)) = 2 ∨ ty (t * 9 + (mc + 1)) = 3 := Classical.byContradiction (fun c => z (a2.mpr c))
        exact br_f z (br_f n5 (G (Or.inr (Or.inl ⟨q2, b⟩))))
    by_cases z2 : d = 2
    · exact br_t z2 (C (Or.inl z2))
    · by_cases z3 : d = 3
      · exact br_f z2 (br_t z3 (C (Or.inr z3)))
      · have z5 : d = 5 := by
          rcases hd with b | b | b | b | b | b
          · exact absurd (Or.inl b) q
          · exact absurd b z2
          · exact absurd b z3
          · exact absurd (Or.inr (Or.inl b)) q
          · exact b
          · exact absurd (Or.inr (Or.inr b)) q
        refine br_f z2 (br_f z3 (br_t z5 ?_))
        by_cases z : ty (t * 9 + (mc + 1)) = 4
        · exact br_t z (G (Or.inr (Or.inr ⟨z5, z⟩)))
        · refine br_f z (h2 (fun b => ?_))
          rcases b with b | b | b
          · exact q b.1
          · exact b.1.elim z2 z3
          · exact z b.2
  by_cases w1 : d = 1
  · exact br_t w1 (A (Or.inl w1))
  · by_cases w4 : d = 4
    · exact br_f w1 (br_t w4 (A (Or.inr (Or.inl w4))))
    · by_cases w6 : d = 6
      · exact br_f w1 (br_f w4 (br_t w6 (A (Or.inr (Or.inr w6)))))
      · exact br_f w1 (br_f w4 (br_f w6 (B (fun b => b.elim w1 (fun c => c.elim w4 w6)))))
theorem ym_188 {post : Int32 → SY → Prop} (hs : (d = 2 ∨ d = 5) → y3 = y2 → post (-3) (nI T, nI P, nI N, nI Q, nI al, ic, r0, r1, r2, r3, ty, dy, st, S, O, ar, qi, qk, qp, ly, wl)) (hq : ¬ ((d = 2 ∨ d = 5) ∧ y3 = y2) → wY_send_208 post d y5 y6 y7 y8 (nI T) (nI P) (nI N) (nI Q) (nI al) ic r0 r1 r2 r3 ty dy st S O ar qi qk qp ly wl) : wY_send_188 post y2 y3 d y5 y6 y7 y8 (nI T) (nI P) (nI N) (nI Q) (nI al) ic r0 r1 r2 r3 ty dy st S O ar qi qk qp ly wl := by
  have G : (d = 2 ∨ d = 5) → wY_send_200 post y2 y3 d y5 y6 y7 y8 (nI T) (nI P) (nI N) (nI Q) (nI al) ic r0 r1 r2 r3 ty dy st S O ar qi qk qp ly wl := by
    intro a
    by_cases z : y3 = y2
    · exact br_t z (hs a z)
    · exact br_f z (hq (fun b => z b.2))
  by_cases z1 : d = 2
  · exact br_t z1 (G (Or.inl z1))
  · by_cases z2 : d = 5
    · exact br_f z1 (br_t z2 (G (Or.inr z2)))
    · exact br_f z1 (br_f z2 (hq (fun b => b.1.elim z1 z2)))
theorem ym_208n {post : Int32 → SY → Prop} (hc : n < 36) (hd : dy n = nI D) (hD : D < P) (hP : P ≤ 16) (h1 : ¬ d = 1) (hq : wY_send_254 post d (nI n) y6 y7 y8 (nI D) (nI T) (nI P) (nI N) (nI Q) (nI al) ic r0 r1 r2 r3 ty dy st S O ar qi qk qp ly wl) : wY_send_208 post d (nI n) y6 y7 y8 (nI T) (nI P) (nI N) (nI Q) (nI al) ic r0 r1 r2 r3 ty dy st S O ar qi qk qp ly wl :=
  ⟨vp_in_nI hc (by omega), nm_r (e' := nI D) (by rw [nI_clamp (by omega)]; exact hd) (br_f (nI_pos (by omega)) (br_t (nI_lt hD (by omega)) (br_f h1 hq)))⟩
theorem ym_208c {post : Int32 → SY → Prop} {r : Nat} (hc : n < 36) (hd : dy n = nI D) (hD : D < P) (hP : P ≤ 16) (hal : al ≤ P) (hQ : Q ≤ 8) (hI : mr_I T N Q al (fun _ => False) 16 ty dy st S O ar h qk qp l) (hl : mr_LY l ly) (hc16 : c < 16) (hrc : mr_rc st h r D) (h6 : mr_on h c r D → post (-6) (nI T, nI P, nI N, nI Q, nI al, ic, r0, r1, r2, r3, ty, dy, st, S, O, ar, qi, qk, qp, ly, wl)) (h0 : ¬ mr_on h c r D → wY_send_254 post 1 (nI n) y6 (nI c) y8 (nI D) (nI T) (nI P) (nI N) (nI Q) (nI al) ic r0 r1 r2 r3 ty dy st S O ar qi qk qp ly wl) : wY_send_208 post 1 (nI n) y6 (nI c) y8 (nI T) (nI P) (nI N) (nI Q) (nI al) ic r0 r1 r2 r3 ty dy st S O ar qi qk qp ly wl := by
  refine ⟨vp_in_nI hc (by omega), nm_r (e' := nI D) (by rw [nI_clamp (by omega)]; exact hd) (br_f (nI_pos (by omega)) (br_t (nI_lt hD (by omega)) (br_t rfl ?_)))⟩
  exact ym_cy hP hal hQ hI hl hc16 hrc hD (fun a => br_f mr_10 (h6 a)) (fun a => br_t rfl (h0 a))
theorem ym_254 {post : Int32 → SY → Prop} (hD : D < P) (hP : P ≤ 16) (h9 : x ≤ 9) (hl : ly D = nI x) (hQ : Q ≤ 8) (hc : n < 36) (hlv : mr_lv st D) (hf : Q ≤ mr_oc qk (D * 9) x → post (-4) (nI T, nI P, nI N, nI Q, nI al, ic, r0, r1, r2, r3, ty, dy, st, S, O, ar, qi, qk, qp, ly, wl)) (h4 : mr_oc qk (D * 9) x < Q → y6 = 4 → wY_send_288 post d y7 y8 (nI D) (nI T) (nI P) (nI N) (nI Q) (nI al) ic r0 r1 r2 r3 (upd ty n 0) (upd dy n (-1)) st S (upd O D (O D - 1)) ar qi qk qp ly wl) (h0 : mr_oc qk (D * 9) x < Q → ¬ y6 = 4 → wY_send_288 post d y7 y8 (nI D) (nI T) (nI P) (nI N) (nI Q) (nI al) ic r0 r1 r2 r3 ty dy st S O ar qi qk qp ly wl) : wY_send_254 post d (nI n) y6 y7 y8 (nI D) (nI T) (nI P) (nI N) (nI Q) (nI al) ic r0 r1 r2 r3 ty dy st S O ar qi qk qp ly wl := by
  have o := mr_ocle qk (D * 9) x
  unfold wY_send_254
  refine ym_oc (by omega) h9 hl ?_
  by_cases z : mr_oc qk (D * 9) x < Q
  · refine br_t (nI_lt z (by omega)) ?_
    by_cases z4 : y6 = 4
    · refine br_t z4 (ym_free hc ?_)
      exact ym_so1 hD hP hlv (h4 z z4)
    · exact br_f z4 (h0 z z4)
  · exact br_f (nI_nlt (by omega) (by omega)) (hf (by omega))
/-! the end, disposition by disposition -/
theorem ym_447 {post : Int32 → SY → Prop} (hD : D < P) (hP : P ≤ 16) (hn : x ≤ 8) (hl : ly D = nI x) (hp : post (ic + 1) (nI T, nI P, nI N, nI Q, nI al, ic + 1, r0, r1, r2, r3, ty, dy, st, S, O, ar, upd qi (D * 9 + x) (ic + 1), upd qk (D * 9 + x) k, upd qp (D * 9 + x) z, upd ly D (nI (x + 1)), wl)) : wY_send_447 post z (nI D) k (nI T) (nI P) (nI N) (nI Q) (nI al) ic r0 r1 r2 r3 ty dy st S O ar qi qk qp ly wl := by
  unfold wY_send_447
  exact ym_append hD hP hn hl hp
theorem ym_2880 {post : Int32 → SY → Prop} (hp : wY_send_447 post y7 (nI D) 0 (nI T) (nI P) (nI N) (nI Q) (nI al) ic r0 r1 r2 r3 ty dy st S O ar qi qk qp ly wl) : wY_send_288 post 0 y7 y8 (nI D) (nI T) (nI P) (nI N) (nI Q) (nI al) ic r0 r1 r2 r3 ty dy st S O ar qi qk qp ly wl :=
  br_f (by decide) (br_f (by decide) (br_f (by decide) (br_f (by decide) (br_f (by decide) (br_f (by decide) hp)))))
theorem ym_2881 {post : Int32 → SY → Prop} (hc : n < 36) (h16 : c < 16) (hv : (ty n = 1 ∧ v = 0 ∧ w = -1) ∨ (ty n = 3 ∧ v = 2 ∧ w = dy n)) (hp : wY_send_447 post (nI c) (nI D) 3 (nI T) (nI P) (nI N) (nI Q) (nI al) ic r0 r1 r2 r3 (upd ty n v) (upd dy n w) (upd st c 2) S O ar qi qk qp ly wl) : wY_send_288 post 1 (nI c) (nI n) (nI D) (nI T) (nI P) (nI N) (nI Q) (nI al) ic r0 r1 r2 r3 ty dy st S O ar qi qk qp ly wl := by
  have vc : vp_in (nI n) 36 := vp_in_nI hc (by omega)
  have cc : (nI n).toNatClampNeg = n := nI_clamp (by omega)
  have v1 : vp_in (nI c) 16 := vp_in_nI h16 (by omega)
  have c1 : (nI c).toNatClampNeg = c := nI_clamp (by omega)
  refine br_t rfl ⟨vc, ?_⟩
  rcases hv with ⟨a, rfl, rfl⟩ | ⟨a, rfl, rfl⟩
  · refine br_f (by rw [cc, a]; decide) (ym_free hc ?_)
    exact ⟨v1, nm_r (e' := upd st c 2) (by rw [c1]) hp⟩
  · rw [mr_ui rfl] at hp
    refine br_t (by rw [cc]; exact a) ⟨vc, nm_r (e' := upd ty n 2) (by rw [cc]) ?_⟩
    exact ⟨v1, nm_r (e' := upd st c 2) (by rw [c1]) hp⟩
theorem ym_2882 {post : Int32 → SY → Prop} (hc : n < 36) (hv : (ty n = 2 ∧ v = 0 ∧ w = -1) ∨ (ty n = 3 ∧ v = 1 ∧ w = dy n)) (hp : wY_send_447 post y7 (nI D) 1 (nI T) (nI P) (nI N) (nI Q) (nI al) ic r0 r1 r2 r3 (upd ty n v) (upd dy n w) st S O ar qi qk qp ly wl) : wY_send_288 post 2 y7 (nI n) (nI D) (nI T) (nI P) (nI N) (nI Q) (nI al) ic r0 r1 r2 r3 ty dy st S O ar qi qk qp ly wl := by
  have vc : vp_in (nI n) 36 := vp_in_nI hc (by omega)
  have cc : (nI n).toNatClampNeg = n := nI_clamp (by omega)
  refine br_f (by decide) (br_t rfl ⟨vc, ?_⟩)
  rcases hv with ⟨a, rfl, rfl⟩ | ⟨a, rfl, rfl⟩
  · exact br_f (by rw [cc, a]; decide) (ym_free hc hp)
  · rw [mr_ui rfl] at hp
    exact br_t (by rw [cc]; exact a) ⟨vc, nm_r (e' := upd ty n 1) (by rw [cc]) hp⟩
theorem ym_2883 {post : Int32 → SY → Prop} (h16 : c < 16) (hd : d = 3 ∨ d = 4) (hp : wY_send_447 post (nI c) (nI D) 1 (nI T) (nI P) (nI N) (nI Q) (nI al) ic r0 r1 r2 r3 ty dy st (upd S c (S c + 1)) O ar qi qk qp ly wl) : wY_send_288 post d (nI c) y8 (nI D) (nI T) (nI P) (nI N) (nI Q) (nI al) ic r0 r1 r2 r3 ty dy st S O ar qi qk qp ly wl := by
  have v1 : vp_in (nI c) 16 := vp_in_nI h16 (by omega)
  have c1 : (nI c).toNatClampNeg = c := nI_clamp (by omega)
  have G : wY_send_391 post (nI c) (nI D) (nI T) (nI P) (nI N) (nI Q) (nI al) ic r0 r1 r2 r3 ty dy st S O ar qi qk qp ly wl := ⟨v1, v1, nm_r (e' := upd S c (S c + 1)) (by rw [c1]) hp⟩
  rcases hd with rfl | rfl
  · exact br_f (by decide) (br_f (by decide) (br_t rfl G))
  · exact br_f (by decide) (br_f (by decide) (br_f (by decide) (br_t rfl G)))
theorem ym_2885 {post : Int32 → SY → Prop} (hc : n < 36) (hp : wY_send_447 post y7 (nI D) 2 (nI T) (nI P) (nI N) (nI Q) (nI al) ic r0 r1 r2 r3 (upd ty n 0) (upd dy n (-1)) st S O ar qi qk qp ly wl) : wY_send_288 post 5 y7 (nI n) (nI D) (nI T) (nI P) (nI N) (nI Q) (nI al) ic r0 r1 r2 r3 ty dy st S O ar qi qk qp ly wl := by
  refine br_f (by decide) (br_f (by decide) (br_f (by decide) (br_f (by decide) (br_f (by decide) (br_t rfl ?_)))))
  exact ym_free hc hp
theorem ym_2886 {post : Int32 → SY → Prop} (h16 : c < 16) (hp : wY_send_447 post (nI c) (nI D) 2 (nI T) (nI P) (nI N) (nI Q) (nI al) ic r0 r1 r2 r3 ty dy st S (upd O c (O c + 1)) ar qi qk qp ly wl) : wY_send_288 post 6 (nI c) y8 (nI D) (nI T) (nI P) (nI N) (nI Q) (nI al) ic r0 r1 r2 r3 ty dy st S O ar qi qk qp ly wl := by
  have v1 : vp_in (nI c) 16 := vp_in_nI h16 (by omega)
  have c1 : (nI c).toNatClampNeg = c := nI_clamp (by omega)
  exact br_f (by decide) (br_f (by decide) (br_f (by decide) (br_f (by decide) (br_t rfl ⟨v1, v1, nm_r (e' := upd O c (O c + 1)) (by rw [c1]) hp⟩))))
end
end
section
/-! send: both sides -/
section
variable {W W' : Nat → Prop} {e off T P N Q al p n t m x c D : Nat} {l : Nat → Nat} {dc ic r0 r1 r2 r3 : Int32} {tx dx st S O ar lx h mi mk mp wl rc ty dy qi qk qp ly : Nat → Int32} {v w i k z : Int32}
variable {md mc : Nat} {d : Int32}
theorem mr_Rap (hR : mr_R (fun _ => False) e off T P N Q al l tx dx st S O ar lx h mi mk mp ty dy qi qk qp ly) (hp : p < 16) (he : p ≠ e) (hl : mr_lv st p) (hm : ((k = 0 ∨ k = 4) ∧ z = -1) ∨ ∃ x, x < al ∧ z = nI x ∧ (k = 1 ∨ k = 2)) (h4 : ¬ k = 4) (ho : mr_oc qk (p * 9) (l p) < Q) : l p ≤ 8 ∧ mr_R (fun _ => False) e off T P N Q al (mr_ul l p (l p + 1)) tx dx st S O ar (upd lx p (nI (l p + 1))) h (upd mi (p * 9 + l p) i) (upd mk (p * 9 + l p) k) (upd mp (p * 9 + l p) z) ty dy (upd qi (p * 9 + l p) i) (upd qk (p * 9 + l p) k) (upd qp (p * 9 + l p) z) (upd ly p (nI (l p + 1))) := by
  obtain ⟨l8, r⟩ := mr_Rapp (i := i) (k := k) (z := z) hR hp he hl (by
    rcases hm with m | ⟨x, a, b, c⟩
    · exact Or.inl m
    · exact Or.inr ⟨x, a, b, c.elim Or.inl (fun g => Or.inr (Or.inl g))⟩) (Or.inr ⟨h4, ho⟩)
  exact ⟨l8, mr_RW r (fun x _ => ⟨fun w => w.1, fun w => absurd w (fun g => g)⟩)⟩
theorem mr_snd (hR : mr_R (fun _ => False) 16 0 T P N Q al l tx dx st S O ar lx h mi mk mp ty dy qi qk qp ly) (ht : t < T) (hm : mc < N) (hd : mr_nd d (ty (t * 9 + (mc + 1)))) (hdc : dy (t * 9 + (mc + 1)) = nI c) (hc : c < al) (hD : D < al) (hl : mr_lv st D) (ho : mr_oc qk (D * 9) (l D) < Q) (hcy : d = 1 → ∃ r, mr_rc st h r D ∧ ¬ mr_on h c r D) (ic : Int32) : ∃ (tx' dx' ty' dy' st' S' O' h' : Nat → Int32) (l' : Nat → Nat) (lx' mi' mk' mp' qi' qk' qp' ly' : Nat → Int32), mr_R (fun _ => False) 16 0 T P N Q al l' tx' dx' st' S' O' ar lx' h' mi' mk' mp' ty' dy' qi' qk' qp' ly' ∧ (∀ (dc : Int32) (wl rc : Nat → Int32) (post : Int32 → SX → Prop), post (ic + 1) (nI T, nI P, nI N, nI Q, dc, nI al, ic + 1, tx', dx', st', S', O', ar, lx', h', mi', mk', mp', wl, rc) → wX_send_58 post (nI t) (nI (mc + 1)) d (nI D) (nI T) (nI P) (nI N) (nI Q) dc (nI al) ic tx dx st S O ar lx h mi mk mp wl rc) ∧ (∀ (r0 r1 r2 r3 : Int32) (wl : Nat → Int32) (post : Int32 → SY → Prop), post (ic + 1) (nI T, nI P, nI N, nI Q, nI al, ic + 1, r0, r1, r2, r3, ty', dy', st', S', O', ar, qi', qk', qp', ly', wl) → wY_send_288 post d (nI c) (nI (t * 9 + (mc + 1))) (nI D) (nI T) (nI P) (nI N) (nI Q) (nI al) ic r0 r1 r2 r3 ty dy st S O ar qi qk qp ly wl) := by
  obtain ⟨b1, b2, b3, b4, b5, b6⟩ := mr_Rb hR
  have hI := hR.2.2.2.2.2.2.2.2
  have nn := hR.2.1 t mc (by omega) (by omega)
  have xd := nn.2.trans hdc
  obtain ⟨e1, e2, e3, e4⟩ := mr_lxy hR (p := D) (by omega)
  have hm8 : mc < 8 := by omega
  have ht4 : t < 4 := by omega
  have D16 : D < 16 := by omega
  have c16 : c < 16 := by omega
  have i32 : t * 8 + mc < 32 := by omega
  have i36 : t * 9 + (mc + 1) < 36 := by omega
  have DP : D < P := by omega
  have D6 : D ≠ 16 := by omega
  have X1 : (ty (t * 9 + (mc + 1)) = 1 ∨ ty (t * 9 + (mc + 1)) = 3) → st c = 1 := by
    intro a
    obtain ⟨p', hp', hd', hs⟩ := mr_Nr hI.1 i36 a
    rw [mr_inj (hd'.symm.trans hdc) (by omega) (by omega)] at hs
    exact hs
  have X2 : ¬ ty (t * 9 + (mc + 1)) = 0 → ¬ ty (t * 9 + (mc + 1)) = 8 → mr_lv st c := by
    intro a b
    obtain ⟨p', hp', hd', hs⟩ := mr_Ns hI.1 i36 a b
    rw [mr_inj (hd'.symm.trans hdc) (by omega) (by omega)] at hs
    exact hs
  rcases hd with ⟨dd, tt⟩ | ⟨dd, tt⟩ | ⟨dd, tt⟩
  · have hs := X1 tt
    rcases dd with rfl | rfl | rfl
    · obtain ⟨r, hrc, hon⟩ := hcy rfl
      have ne : D ≠ c := fun q => hon (by rw [q]; exact mr_onS r)
      rcases tt with t1 | t3
      · have R1 := mr_Rmv (v := 0) (w := -1) hR ht hm (Or.inl t1) hdc hc hs hrc hon (Or.inl ⟨t1, rfl, rfl⟩)
        obtain ⟨l8, R2⟩ := mr_Rapp (i := ic + 1) (k := 3) (z := nI c) R1 D16 D6 ((mr_lvn ne).mpr hl) (Or.inr ⟨c, hc, rfl, Or.inr (Or.inr ⟨rfl, pk_us, pk_us, rfl⟩)⟩) (Or.inr ⟨by decide, ho⟩)
        have R3 := mr_RW (W' := fun _ => False) R2 (fun x _ => ⟨fun q => q.2 ⟨rfl, by rw [q.1]⟩, fun q => absurd q (fun g => g)⟩)
        exact ⟨_, _, _, _, _, _, _, _, _, _, _, _, _, _, _, _, _, R3, fun dc wl rc post hq => xm_586 ht4 hm8 (Or.inl rfl) xd (fun q hq => xm_tk1 i32 c16 (Or.inl ⟨nn.1.trans t1, rfl, rfl⟩) hq) (xm_94 D16 l8 e1 (Or.inr (Or.inl ⟨rfl, rfl⟩)) hq), fun r0 r1 r2 r3 wl post hq => ym_2881 i36 c16 (Or.inl ⟨t1, rfl, rfl⟩) (ym_447 DP b3 l8 e2 hq)⟩
      · have R1 := mr_Rmv (v := 2) (w := nI c) hR ht hm (Or.inr t3) hdc hc hs hrc hon (Or.inr ⟨t3, rfl, rfl⟩)
        obtain ⟨l8, R2⟩ := mr_Rapp (i := ic + 1) (k := 3) (z := nI c) R1 D16 D6 ((mr_lvn ne).mpr hl) (Or.inr ⟨c, hc, rfl, Or.inr (Or.inr ⟨rfl, pk_us, pk_us, rfl⟩)⟩) (Or.inr ⟨by decide, ho⟩)
        have R3 := mr_RW (W' := fun _ => False) R2 (fun x _ => ⟨fun q => q.2 ⟨rfl, by rw [q.1]⟩, fun q => absurd q (fun g => g)⟩)
        exact ⟨_, _, _, _, _, _, _, _, _, _, _, _, _, _, _, _, _, R3, fun dc wl rc post hq => xm_586 ht4 hm8 (Or.inl rfl) xd (fun q hq => xm_tk1 i32 c16 (Or.inr ⟨nn.1.trans t3, rfl, xd.symm⟩) hq) (xm_94 D16 l8 e1 (Or.inr (Or.inl ⟨rfl, rfl⟩)) hq), fun r0 r1 r2 r3 wl post hq => ym_2881 i36 c16 (Or.inr ⟨t3, rfl, hdc.symm⟩) (ym_447 DP b3 l8 e2 hq)⟩
    · have R1 := mr_RS (v := S c + 1) hR (Or.inl hs : mr_lv st c)
      obtain ⟨l8, R2⟩ := mr_Rap (i := ic + 1) (k := 1) (z := nI c) R1 D16 D6 hl (Or.inr ⟨c, hc, rfl, Or.inl rfl⟩) (by decide) ho
      exact ⟨_, _, _, _, _, _, _, _, _, _, _, _, _, _, _, _, _, R2, fun dc wl rc post hq => xm_586 ht4 hm8 (Or.inr (Or.inr (Or.inr (Or.inl rfl)))) xd (fun q hq => xm_tk3 c16 (Or.inr rfl) hq) (xm_94 D16 l8 e1 (Or.inr (Or.inr (Or.inl ⟨Or.inr (Or.inr rfl), rfl⟩))) hq), fun r0 r1 r2 r3 wl post hq => ym_2883 c16 (Or.inr rfl) (ym_447 DP b3 l8 e2 hq)⟩
    · have R1 := mr_RO (v := O c + 1) hR (Or.inl hs : mr_lv st c)
      obtain ⟨l8, R2⟩ := mr_Rap (i := ic + 1) (k := 2) (z := nI c) R1 D16 D6 hl (Or.inr ⟨c, hc, rfl, Or.inr rfl⟩) (by decide) ho
      exact ⟨_, _, _, _, _, _, _, _, _, _, _, _, _, _, _, _, _, R2, fun dc wl rc post hq => xm_586 ht4 hm8 (Or.inr (Or.inr (Or.inr (Or.inr (Or.inr rfl))))) xd (fun q hq => xm_tk6 c16 hq) (xm_94 D16 l8 e1 (Or.inr (Or.inr (Or.inr ⟨Or.inr rfl, rfl⟩))) hq), fun r0 r1 r2 r3 wl post hq => ym_2886 c16 (ym_447 DP b3 l8 e2 hq)⟩
  · have lc := X2 (by rcases tt with a | a <;> rw [a] <;> decide) (by rcases tt with a | a <;> rw [a] <;> decide)
    rcases dd with rfl | rfl
    · rcases tt with t2 | t3
      · have R1 := mr_Rf hR (t := t) hm8
        obtain ⟨l8, R2⟩ := mr_Rap (i := ic + 1) (k := 1) (z := nI c) R1 D16 D6 hl (Or.inr ⟨c, hc, rfl, Or.inl rfl⟩) (by decide) ho
        exact ⟨_, _, _, _, _, _, _, _, _, _, _, _, _, _, _, _, _, R2, fun dc wl rc post hq => xm_586 ht4 hm8 (Or.inr (Or.inl rfl)) xd (fun q hq => xm_tk2 i32 (Or.inl ⟨nn.1.trans t2, rfl, rfl⟩) hq) (xm_94 D16 l8 e1 (Or.inr (Or.inr (Or.inl ⟨Or.inl rfl, rfl⟩))) hq), fun r0 r1 r2 r3 wl post hq => ym_2882 i36 (Or.inl ⟨t2, rfl, rfl⟩) (ym_447 DP b3 l8 e2 hq)⟩
      · have R1 := mr_R31 hR ht hm t3
        obtain ⟨l8, R2⟩ := mr_Rap (i := ic + 1) (k := 1) (z := nI c) R1 D16 D6 hl (Or.inr ⟨c, hc, rfl, Or.inl rfl⟩) (by decide) ho
        refine ⟨_, dx, _, dy, _, _, _, _, _, _, _, _, _, _, _, _, _, R2, fun dc wl rc post hq => xm_586 ht4 hm8 (Or.inr (Or.inl rfl)) xd (fun q hq => xm_tk2 i32 (Or.inr ⟨nn.1.trans t3, rfl, rfl⟩) ?_) (xm_94 D16 l8 e1 (Or.inr (Or.inr (Or.inl ⟨Or.inl rfl, rfl⟩))) hq), fun r0 r1 r2 r3 wl post hq => ym_2882 i36 (Or.inr ⟨t3, rfl, rfl⟩) ?_⟩
        · rw [mr_ui rfl]
          exact hq
        · rw [mr_ui rfl]
          exact ym_447 DP b3 l8 e2 hq
    · have R1 := mr_RS (v := S c + 1) hR lc
      obtain ⟨l8, R2⟩ := mr_Rap (i := ic + 1) (k := 1) (z := nI c) R1 D16 D6 hl (Or.inr ⟨c, hc, rfl, Or.inl rfl⟩) (by decide) ho
      exact ⟨_, _, _, _, _, _, _, _, _, _, _, _, _, _, _, _, _, R2, fun dc wl rc post hq => xm_586 ht4 hm8 (Or.inr (Or.inr (Or.inl rfl))) xd (fun q hq => xm_tk3 c16 (Or.inl rfl) hq) (xm_94 D16 l8 e1 (Or.inr (Or.inr (Or.inl ⟨Or.inr (Or.inl rfl), rfl⟩))) hq), fun r0 r1 r2 r3 wl post hq => ym_2883 c16 (Or.inl rfl) (ym_447 DP b3 l8 e2 hq)⟩
  · subst dd
    have R1 := mr_Rf hR (t := t) hm8
    obtain ⟨l8, R2⟩ := mr_Rap (i := ic + 1) (k := 2) (z := nI c) R1 D16 D6 hl (Or.inr ⟨c, hc, rfl, Or.inr rfl⟩) (by decide) ho
    exact ⟨_, _, _, _, _, _, _, _, _, _, _, _, _, _, _, _, _, R2, fun dc wl rc post hq => xm_586 ht4 hm8 (Or.inr (Or.inr (Or.inr (Or.inr (Or.inl rfl))))) xd (fun q hq => xm_tk5 i32 hq) (xm_94 D16 l8 e1 (Or.inr (Or.inr (Or.inr ⟨Or.inl rfl, rfl⟩))) hq), fun r0 r1 r2 r3 wl post hq => ym_2885 i36 (ym_447 DP b3 l8 e2 hq)⟩
end
end
section
/-! send -/
theorem mr_nd0 {d t : Int32} (h : mr_nd d t) : ¬ t = 0 ∧ ¬ t = 8 := by
  rcases h with ⟨_, a⟩ | ⟨_, a⟩ | ⟨_, a⟩
  · rcases a with rfl | rfl <;> decide
  · rcases a with rfl | rfl <;> decide
  · subst a
    decide
theorem mr_nd4 {d t : Int32} (h : mr_nd d t) (h4 : t = 4) : d = 5 := by
  subst h4
  rcases h with ⟨_, a⟩ | ⟨_, a⟩ | ⟨a, _⟩
  · exact absurd a (by decide)
  · exact absurd a (by decide)
  · exact a
theorem i_vc_send {k : Nat} {u : SX} {v : SY} (I : i_Rel k u v) (hk : k + 5 ≤ 2564) (v1 : Int32) (v2 : Int32) (v3 : Int32) (v4 : Int32) : wpX_send (fun r u' => wpY_send (fun r' v' => r' = r ∧ i_Rel (k + 5) u' v') v v1 v2 v3 v4) u v1 v2 v3 v4 := by
  obtain ⟨T, P, N, Q, al, l, dc, ic, tx, dx, st, S, O, ar, lx, h, mi, mk, mp, wl, rc, ty, dy, qi, qk, qp, ly, rfl, rfl, hR⟩ := I
  obtain ⟨b1, b2, b3, b4, b5, b6⟩ := mr_Rb hR
  have F := mr_fin (kk := k + 5) (dc := dc) (ic := ic) (wl := wl) (rc := rc) hR rfl rfl rfl rfl
  rcases mr_tk (T := T) v1 (by omega) with hy | ⟨t, ht, rfl⟩
  · exact xm_sendE (fun q hq => xm_srT hy hq) (by decide) (ym_sdT hy ⟨rfl, F⟩)
  rcases mr_nk (N := N) v2 b4 with hn | ⟨md, hm, rfl⟩
  · exact xm_sendE (fun q hq => xm_srN ht b1 hn hq) (by decide) (ym_sdN ht b1 hn ⟨rfl, F⟩)
  have hI := hR.2.2.2.2.2.2.2.2
  have nn := hR.2.1 t md (by omega) (by omega)
  have tk := mr_Ntok (c := t * 9 + (md + 1)) hI.1 (by omega)
  by_cases h6 : ty (t * 9 + (md + 1)) = 2 ∨ ty (t * 9 + (md + 1)) = 3 ∨ ty (t * 9 + (md + 1)) = 4
  · have X0 : ¬ tx (t * 8 + md) &&& 6 = 0 := by
      rw [nn.1]
      exact fun a => (mr_a6 tk).mp a h6
    obtain ⟨D, hD, hdD, hl⟩ := mr_Ns hI.1 (c := t * 9 + (md + 1)) (by omega) (by rcases h6 with a | a | a <;> rw [a] <;> decide) (by rcases h6 with a | a | a <;> rw [a] <;> decide)
    have xd := nn.2.trans hdD
    have D16 : D < 16 := by omega
    have DP : D < P := by omega
    have t4 : t < 4 := by omega
    have m8 : md < 8 := by omega
    have i36 : t * 9 + (md + 1) < 36 := by omega
    obtain ⟨e1, e2, e3, e4⟩ := mr_lxy hR (p := D) D16
    have gk := mr_gk hR (p := D) D16
    have oce : mr_oc mk (D * 9) (l D) = mr_oc qk (D * 9) (l D) := mr_occ (fun i hi => (gk i hi).2.1)
    have oo := hI.2.2.2.2.1 D D16
    have X127 : ∀ post : Int32 → Prop, (mr_oc qk (D * 9) (l D) < Q → post 0) → (Q ≤ mr_oc qk (D * 9) (l D) → post (-4)) → wX_sendRefusal_127 post (nI D) (nI T) (nI P) (nI N) (nI Q) dc (nI al) ic tx dx st S O ar lx h mi mk mp wl rc := fun post h0 h4 => xm_127 D16 e3 e1 (by rw [oce]; exact oo.2.1) b5 (fun a => h0 (by rw [← oce]; exact a)) (fun a => h4 (by rw [← oce]; exact a))
    -- the state behind the freeing of a send-once destination
    have R4 := mr_RO (v := O D - 1) (mr_Rf hR (t := t) m8) hl
    by_cases hy : v4 < 0 ∨ ¬ v4 ≤ 6
    · exact xm_sendE (fun q hq => xm_srD ht b1 hm b4 X0 hy hq) (by decide) (ym_sd0 ht b1 hm b4 h6 (ym_59D hy ⟨rfl, F⟩))
    rcases mr_d6 (y := v4) (fun a => hy (Or.inl a)) (Classical.byContradiction (fun a => hy (Or.inr a))) with rfl | hd
    · -- no right is carried
      have C : ∃ cty cp, (∀ q : Int32 → Prop, q cty → wpX_nameType q (nI T, nI P, nI N, nI Q, dc, nI al, ic, tx, dx, st, S, O, ar, lx, h, mi, mk, mp, wl, rc) (nI t) v3) ∧ (∀ q : Int32 → Prop, q cp → wpX_namePort q (nI T, nI P, nI N, nI Q, dc, nI al, ic, tx, dx, st, S, O, ar, lx, h, mi, mk, mp, wl, rc) (nI t) v3) := by
        rcases mr_nk (N := N) v3 b4 with hn | ⟨mc, hmc, rfl⟩
        · exact ⟨0, -1, fun q hq => xm_nt0 ht b1 hn hq, fun q hq => xm_np0 ht b1 hn hq⟩
        · exact ⟨_, _, fun q hq => xm_nt1 ht b1 hmc b4 hq, fun q hq => xm_np1 ht b1 hmc b4 hq⟩
      obtain ⟨cty, cp, hct, hcp⟩ := C
      have XR : ∀ post : Int32 → Prop, (mr_oc qk (D * 9) (l D) < Q → post 0) → (Q ≤ mr_oc qk (D * 9) (l D) → post (-4)) → wpX_sendRefusal post (nI T, nI P, nI N, nI Q, dc, nI al, ic, tx, dx, st, S, O, ar, lx, h, mi, mk, mp, wl, rc) (nI t) (nI (md + 1)) v3 0 := fun post h0 h4 => xm_sr0 ht b1 hm b4 X0 hct (xm_71 (fun a => absurd a (by decide)) (fun _ => xm_91n ht b1 hm b4 xd hcp (by decide) (X127 post h0 h4)))
      have YR : ∀ post : Int32 → SY → Prop, (Q ≤ mr_oc qk (D * 9) (l D) → post (-4) (nI T, nI P, nI N, nI Q, nI al, ic, rc 0, rc 1, rc 2, rc 3, ty, dy, st, S, O, ar, qi, qk, qp, ly, wl)) → (mr_oc qk (D * 9) (l D) < Q → ty (t * 9 + (md + 1)) = 4 → wY_send_288 post 0 (-1) 0 (nI D) (nI T) (nI P) (nI N) (nI Q) (nI al) ic (rc 0) (rc 1) (rc 2) (rc 3) (upd ty (t * 9 + (md + 1)) 0) (upd dy (t * 9 + (md + 1)) (-1)) st S (upd O D (O D - 1)) ar qi qk qp ly wl) → (mr_oc qk (D * 9) (l D) < Q → ¬ ty (t * 9 + (md + 1)) = 4 → wY_send_288 post 0 (-1) 0 (nI D) (nI T) (nI P) (nI N) (nI Q) (nI al) ic (rc 0) (rc 1) (rc 2) (rc 3) ty dy st S O ar qi qk qp ly wl) → wpY_send post (nI T, nI P, nI N, nI Q, nI al, ic, rc 0, rc 1, rc 2, rc 3, ty, dy, st, S, O, ar, qi, qk, qp, ly, wl) (nI t) (nI (md + 1)) v3 0 := fun post hf h4 h0 => ym_sd0 ht b1 hm b4 h6 (ym_590 (ym_188 (fun a => absurd a (by decide)) (fun _ => ym_208n i36 hdD DP b3 (by decide) (ym_254 DP b3 e3 e2 b5 i36 hl hf h4 h0))))
      by_cases hf : Q ≤ mr_oc qk (D * 9) (l D)
      · exact xm_sendE (fun q hq => XR q (fun a => absurd a (by omega)) (fun _ => hq)) (by decide) (YR _ (fun _ => ⟨rfl, F⟩) (fun a => absurd a (by omega)) (fun a => absurd a (by omega)))
      · have ho : mr_oc qk (D * 9) (l D) < Q := by omega
        by_cases z4 : ty (t * 9 + (md + 1)) = 4
        · obtain ⟨l8, R5⟩ := mr_Rap (i := ic + 1) (k := 0) (z := -1) R4 D16 (by omega) hl (Or.inl ⟨Or.inl rfl, rfl⟩) (by decide) ho
          refine xm_sendB t4 m8 (fun q hq => XR q (fun _ => hq) (fun a => absurd a hf)) (nn.1.trans z4) xd D16 hl (xm_580 (xm_94 D16 l8 e1 (Or.inl ⟨rfl, rfl⟩) ?_))
          exact YR _ (fun a => absurd a hf) (fun _ _ => ym_2880 (ym_447 DP b3 l8 e2 ⟨rfl, mr_fin R5 rfl rfl rfl rfl⟩)) (fun _ a => absurd z4 a)
        · obtain ⟨l8, R5⟩ := mr_Rap (i := ic + 1) (k := 0) (z := -1) hR D16 (by omega) hl (Or.inl ⟨Or.inl rfl, rfl⟩) (by decide) ho
          refine xm_sendA t4 m8 (fun q hq => XR q (fun _ => hq) (fun a => absurd a hf)) (by rw [nn.1]; exact z4) xd (xm_580 (xm_94 D16 l8 e1 (Or.inl ⟨rfl, rfl⟩) ?_))
          exact YR _ (fun a => absurd a hf) (fun _ a => absurd a z4) (fun _ _ => ym_2880 (ym_447 DP b3 l8 e2 ⟨rfl, mr_fin R5 rfl rfl rfl rfl⟩))
    · rcases mr_nk (N := N) v3 b4 with hn | ⟨mc, hmc, rfl⟩
      · have z0 : ¬ mr_nd v4 0 := fun a => (mr_nd0 a).1 rfl
        exact xm_sendE (fun q hq => xm_sr6 (cty := 0) ht b1 hm b4 X0 hd (Or.inl rfl) (fun q hq => xm_nt0 ht b1 hn hq) (fun _ => hq) (fun a => absurd a z0)) (by decide) (ym_sd0 ht b1 hm b4 h6 (ym_59N hd hn ⟨rfl, F⟩))
      have nc := hR.2.1 t mc t4 (by omega)
      have tc := mr_Ntok (c := t * 9 + (mc + 1)) hI.1 (by omega)
      have hct : ∀ q : Int32 → Prop, q (ty (t * 9 + (mc + 1))) → wpX_nameType q (nI T, nI P, nI N, nI Q, dc, nI al, ic, tx, dx, st, S, O, ar, lx, h, mi, mk, mp, wl, rc) (nI t) (nI (mc + 1)) := fun q hq => xm_nt1 ht b1 hmc b4 (by rw [nc.1]; exact hq)
      by_cases hnd : mr_nd v4 (ty (t * 9 + (mc + 1)))
      · obtain ⟨c, hc, hdc, hlc⟩ := mr_Ns hI.1 (c := t * 9 + (mc + 1)) (by omega) (mr_nd0 hnd).1 (mr_nd0 hnd).2
        have c16 : c < 16 := by omega
        have hcp : ∀ q : Int32 → Prop, q (nI c) → wpX_namePort q (nI T, nI P, nI N, nI Q, dc, nI al, ic, tx, dx, st, S, O, ar, lx, h, mi, mk, mp, wl, rc) (nI t) (nI (mc + 1)) := fun q hq => xm_np1 ht b1 hmc b4 (by rw [nc.2, hdc]; exact hq)
        obtain ⟨r, hrc⟩ := hI.2.2.2.2.2.2.2.2 D D16
        have XR : ∀ post : Int32 → Prop, ((v4 = 2 ∨ v4 = 5) ∧ nI (mc + 1) = nI (md + 1) → post (-3)) → (v4 = 1 → mr_on h c r D → post (-6)) → (¬ ((v4 = 2 ∨ v4 = 5) ∧ nI (mc + 1) = nI (md + 1)) → (v4 = 1 → ¬ mr_on h c r D) → Q ≤ mr_oc qk (D * 9) (l D) → post (-4)) → (¬ ((v4 = 2 ∨ v4 = 5) ∧ nI (mc + 1) = nI (md + 1)) → (v4 = 1 → ¬ mr_on h c r D) → mr_oc qk (D * 9) (l D) < Q → post 0) → wpX_sendRefusal post (nI T, nI P, nI N, nI Q, dc, nI al, ic, tx, dx, st, S, O, ar, lx, h, mi, mk, mp, wl, rc) (nI t) (nI (md + 1)) (nI (mc + 1)) v4 := by
          intro post p3 p6 p4 p0
          refine xm_sr6 ht b1 hm b4 X0 hd tc hct (fun a => absurd hnd a) (fun _ => xm_71 (fun a b => p3 ⟨a, b⟩) (fun ns => ?_))
          by_cases d1 : v4 = 1
          · subst d1
            exact xm_91c ht b1 hm b4 xd hcp c16 hrc (p6 rfl) (fun on => X127 post (p0 ns (fun _ => on)) (p4 ns (fun _ => on)))
          · exact xm_91n ht b1 hm b4 xd hcp d1 (X127 post (p0 ns (fun a => absurd a d1)) (p4 ns (fun a => absurd a d1)))
        have YR : ∀ post : Int32 → SY → Prop, ((v4 = 2 ∨ v4 = 5) ∧ nI (mc + 1) = nI (md + 1) → post (-3) (nI T, nI P, nI N, nI Q, nI al, ic, rc 0, rc 1, rc 2, rc 3, ty, dy, st, S, O, ar, qi, qk, qp, ly, wl)) → (v4 = 1 → mr_on h c r D → post (-6) (nI T, nI P, nI N, nI Q, nI al, ic, rc 0, rc 1, rc 2, rc 3, ty, dy, st, S, O, ar, qi, qk, qp, ly, wl)) → (¬ ((v4 = 2 ∨ v4 = 5) ∧ nI (mc + 1) = nI (md + 1)) → (v4 = 1 → ¬ mr_on h c r D) → Q ≤ mr_oc qk (D * 9) (l D) → post (-4) (nI T, nI P, nI N, nI Q, nI al, ic, rc 0, rc 1, rc 2, rc 3, ty, dy, st, S, O, ar, qi, qk, qp, ly, wl)) → (¬ ((v4 = 2 ∨ v4 = 5) ∧ nI (mc + 1) = nI (md + 1)) → (v4 = 1 → ¬ mr_on h c r D) → mr_oc qk (D * 9) (l D) < Q → ty (t * 9 + (md + 1)) = 4 → wY_send_288 post v4 (nI c) (nI (t * 9 + (mc + 1))) (nI D) (nI T) (nI P) (nI N) (nI Q) (nI al) ic (rc 0) (rc 1) (rc 2) (rc 3) (upd ty (t * 9 + (md + 1)) 0) (upd dy (t * 9 + (md + 1)) (-1)) st S (upd O D (O D - 1)) ar qi qk qp ly wl) → (¬ ((v4 = 2 ∨ v4 = 5) ∧ nI (mc + 1) = nI (md + 1)) → (v4 = 1 → ¬ mr_on h c r D) → mr_oc qk (D * 9) (l D) < Q → ¬ ty (t * 9 + (md + 1)) = 4 → wY_send_288 post v4 (nI c) (nI (t * 9 + (mc + 1))) (nI D) (nI T) (nI P) (nI N) (nI Q) (nI al) ic (rc 0) (rc 1) (rc 2) (rc 3) ty dy st S O ar qi qk qp ly wl) → wpY_send post (nI T, nI P, nI N, nI Q, nI al, ic, rc 0, rc 1, rc 2, rc 3, ty, dy, st, S, O, ar, qi, qk, qp, ly, wl) (nI t) (nI (md + 1)) (nI (mc + 1)) v4 := by
          intro post p3 p6 p4 pf p0
          refine ym_sd0 ht b1 hm b4 h6 (ym_596 t4 hmc b4 hd tc (fun a => absurd hnd a) (fun _ => ?_))
          rw [hdc]
          refine ym_188 (fun a b => p3 ⟨a, b⟩) (fun ns => ?_)
          by_cases d1 : v4 = 1
          · subst d1
            exact ym_208c i36 hdD DP b3 b6 b5 hI hR.2.2.2.1 c16 hrc (p6 rfl) (fun on => ym_254 DP b3 e3 e2 b5 i36 hl (p4 ns (fun _ => on)) (pf ns (fun _ => on)) (p0 ns (fun _ => on)))
          · exact ym_208n i36 hdD DP b3 d1 (ym_254 DP b3 e3 e2 b5 i36 hl (p4 ns (fun a => absurd a d1)) (pf ns (fun a => absurd a d1)) (p0 ns (fun a => absurd a d1)))
        by_cases ns : (v4 = 2 ∨ v4 = 5) ∧ nI (mc + 1) = nI (md + 1)
        · have n1 : ¬ v4 = 1 := by
            rcases ns.1 with a | a <;> rw [a] <;> decide
          exact xm_sendE (fun q hq => XR q (fun _ => hq) (fun a => absurd a n1) (fun a => absurd ns a) (fun a => absurd ns a)) (by decide) (YR _ (fun _ => ⟨rfl, F⟩) (fun a => absurd a n1) (fun a => absurd ns a) (fun a => absurd ns a) (fun a => absurd ns a))
        by_cases cy : v4 = 1 ∧ mr_on h c r D
        · exact xm_sendE (fun q hq => XR q (fun a => absurd a ns) (fun _ _ => hq) (fun _ a => absurd cy.2 (a cy.1)) (fun _ a => absurd cy.2 (a cy.1))) (by decide) (YR _ (fun a => absurd a ns) (fun _ _ => ⟨rfl, F⟩) (fun _ a => absurd cy.2 (a cy.1)) (fun _ a => absurd cy.2 (a cy.1)) (fun _ a => absurd cy.2 (a cy.1)))
        have on : v4 = 1 → ¬ mr_on h c r D := fun a b => cy ⟨a, b⟩
        by_cases hf : Q ≤ mr_oc qk (D * 9) (l D)
        · exact xm_sendE (fun q hq => XR q (fun a => absurd a ns) (fun a b => absurd b (on a)) (fun _ _ _ => hq) (fun _ _ a => absurd a (by omega))) (by decide) (YR _ (fun a => absurd a ns) (fun a b => absurd b (on a)) (fun _ _ _ => ⟨rfl, F⟩) (fun _ _ a => absurd a (by omega)) (fun _ _ a => absurd a (by omega)))
        have ho : mr_oc qk (D * 9) (l D) < Q := by omega
        have XS : ∀ q : Int32 → Prop, q 0 → wpX_sendRefusal q (nI T, nI P, nI N, nI Q, dc, nI al, ic, tx, dx, st, S, O, ar, lx, h, mi, mk, mp, wl, rc) (nI t) (nI (md + 1)) (nI (mc + 1)) v4 := fun q hq => XR q (fun a => absurd a ns) (fun a b => absurd b (on a)) (fun _ _ a => absurd a hf) (fun _ _ _ => hq)
        by_cases z4 : ty (t * 9 + (md + 1)) = 4
        · have ne : t * 9 + (mc + 1) ≠ t * 9 + (md + 1) := by
            intro a
            have d5 := mr_nd4 hnd (by rw [a]; exact z4)
            have em : mc = md := by omega
            exact ns ⟨Or.inr d5, by rw [em]⟩
          obtain ⟨tx', dx', ty', dy', st', S', O', h', l', lx', mi', mk', mp', qi', qk', qp', ly', R5, dX, dY⟩ := mr_snd R4 ht hmc (d := v4) (by rw [pk_un ne]; exact hnd) (by rw [pk_un ne]; exact hdc) hc hD hl ho (fun a => ⟨r, hrc, on a⟩) ic
          refine xm_sendB t4 m8 XS (nn.1.trans z4) xd D16 hl (dX dc wl rc _ ?_)
          exact YR _ (fun a => absurd a ns) (fun a b => absurd b (on a)) (fun _ _ a => absurd a hf) (fun _ _ _ _ => dY _ _ _ _ wl _ ⟨rfl, mr_fin R5 rfl rfl rfl rfl⟩) (fun _ _ _ a => absurd z4 a)
        · obtain ⟨tx', dx', ty', dy', st', S', O', h', l', lx', mi', mk', mp', qi', qk', qp', ly', R5, dX, dY⟩ := mr_snd hR ht hmc (d := v4) hnd hdc hc hD hl ho (fun a => ⟨r, hrc, on a⟩) ic
          refine xm_sendA t4 m8 XS (by rw [nn.1]; exact z4) xd (dX dc wl rc _ ?_)
          exact YR _ (fun a => absurd a ns) (fun a b => absurd b (on a)) (fun _ _ a => absurd a hf) (fun _ _ _ a => absurd a z4) (fun _ _ _ _ => dY _ _ _ _ wl _ ⟨rfl, mr_fin R5 rfl rfl rfl rfl⟩)
      · exact xm_sendE (fun q hq => xm_sr6 ht b1 hm b4 X0 hd tc hct (fun _ => hq) (fun a => absurd a hnd)) (by decide) (ym_sd0 ht b1 hm b4 h6 (ym_596 t4 hmc b4 hd tc (fun _ => ⟨rfl, F⟩) (fun a => absurd a hnd)))
  · exact xm_sendE (fun q hq => xm_srF ht b1 hm b4 (by rw [nn.1]; exact (mr_a6 tk).mpr h6) hq) (by decide) (ym_sdF ht b1 hm b4 h6 ⟨rfl, F⟩)
end
section
/-! the names of a dying port, on both sides -/
def mr_kfT (n y : Nat) (ty dy : Nat → Int32) : Nat → Int32 := fun c => if c < n then mr_kT y (ty c) (dy c) else ty c
def mr_kfD (n y : Nat) (ty dy : Nat → Int32) : Nat → Int32 := fun c => if c < n then mr_kD y (ty c) (dy c) else dy c
theorem mr_KSu {n y : Nat} {ty dy a b : Nat → Int32} (hs : mr_KS y n ty dy a b) : a = mr_kfT n y ty dy ∧ b = mr_kfD n y ty dy := by
  refine ⟨?_, ?_⟩
  · funext c
    by_cases q : c < n
    · exact (hs.1 c q).1.trans (if_pos q).symm
    · exact (hs.2 c (by omega)).1.trans (if_neg q).symm
  · funext c
    by_cases q : c < n
    · exact (hs.1 c q).2.trans (if_pos q).symm
    · exact (hs.2 c (by omega)).2.trans (if_neg q).symm
section
variable {W W' : Nat → Prop} {e off T P N Q al p n t m x c D : Nat} {l : Nat → Nat} {dc ic r0 r1 r2 r3 : Int32} {tx dx st S O ar lx h mi mk mp wl rc ty dy qi qk qp ly : Nat → Int32} {v w i k z : Int32}
variable {y : Nat} {y3 y4 y5 y6 : Int32}
theorem xm_kiL {post : SX → Prop} (hq : post (nI T, nI P, nI N, nI Q, dc, nI al, ic, mr_kfT 32 y tx dx, mr_kfD 32 y tx dx, st, S, O, ar, lx, h, mi, mk, mp, wl, rc)) : ∀ d i, i + d = 32 → ∀ tx1 dx1, mr_KS y i tx dx tx1 dx1 → wX_killNames_2 post (nI y) (d + 1) (nI i) (nI T) (nI P) (nI N) (nI Q) dc (nI al) ic tx1 dx1 st S O ar lx h mi mk mp wl rc := by
  intro d
  induction d with
  | zero =>
    intro i hi tx1 dx1 hs
    have e : i = 32 := by omega
    rw [e] at hs
    obtain ⟨a, b⟩ := mr_KSu hs
    rw [a, b]
    exact br_t (nI_le (a := 32) (by omega) (by omega)) hq
  | succ d ih =>
    intro i hi tx1 dx1 hs
    have v1 : vp_in (nI i) 32 := vp_in_nI (by omega) (by omega)
    have c1 : (nI i).toNatClampNeg = i := nI_clamp (by omega)
    have k1 := hs.2 i (Nat.le_refl _)
    refine br_f (nI_ge (b := 32) (by omega) (by omega)) ⟨v1, ?_⟩
    by_cases z : dx i = nI y
    · refine br_t (by rw [c1, k1.2]; exact z) ⟨v1, ?_⟩
      by_cases z1 : tx i = 1
      · refine br_t (by rw [c1, k1.1]; exact z1) ?_
        exact xm_free (by omega) (nm_r (nI_1 i) (ih (i + 1) (by omega) _ _ (mr_KSf hs z z1)))
      · exact br_f (by rw [c1, k1.1]; exact z1) ⟨v1, nm_r (e' := upd tx1 i 8) (by rw [c1]) (nm_r (nI_1 i) (ih (i + 1) (by omega) _ _ (mr_KSd hs z z1)))⟩
    · exact br_f (by rw [c1, k1.2]; exact z) (nm_r (nI_1 i) (ih (i + 1) (by omega) _ _ (mr_KSe hs z)))
theorem xm_ki {post : SX → Prop} (hq : post (nI T, nI P, nI N, nI Q, dc, nI al, ic, mr_kfT 32 y tx dx, mr_kfD 32 y tx dx, st, S, O, ar, lx, h, mi, mk, mp, wl, rc)) : wpX_killNames post (nI T, nI P, nI N, nI Q, dc, nI al, ic, tx, dx, st, S, O, ar, lx, h, mi, mk, mp, wl, rc) (nI y) :=
  ⟨33, xm_kiL hq 32 0 (by omega) tx dx mr_KS0⟩
theorem ym_nameA {post : Int32 → Prop} {q : Int32} (h0 : post 0) (h1 : post 1) : wpY_nameOk post (nI T, nI P, nI N, nI Q, nI al, ic, r0, r1, r2, r3, ty, dy, st, S, O, ar, qi, qk, qp, ly, wl) q := by
  by_cases a1 : q < 1
  · exact br_t a1 h0
  · by_cases a2 : nI N < q
    · exact br_f a1 (br_t a2 h0)
    · exact br_f a1 (br_f a2 h1)
theorem ym_kiL {post : Int32 → SY → Prop} {J : Int32 → Int32 → Int32 → Int32 → Int32 → Int32 → Int32 → Int32 → Int32 → Int32 → Int32 → Int32 → Int32 → Int32 → (Nat → Int32) → (Nat → Int32) → (Nat → Int32) → (Nat → Int32) → (Nat → Int32) → (Nat → Int32) → (Nat → Int32) → (Nat → Int32) → (Nat → Int32) → (Nat → Int32) → (Nat → Int32) → Prop} (hT : T ≤ 4) (h8 : N ≤ 8) (hal : al ≤ 16) (hy : y < al) (hN : mr_N T N al st ty dy) (hq : ∃ n, wY_destroyReceive_279 post J y3 y5 y6 (nI y) n y4 0 (nI T) (nI P) (nI N) (nI Q) (nI al) ic r0 r1 r2 r3 (mr_kfT 36 y ty dy) (mr_kfD 36 y ty dy) (upd st y 3) (upd S y 0) (upd O y 0) (upd ar y 0) qi qk qp ly wl) : ∀ d i, i + d = 36 → ∀ ty1 dy1, mr_KS y i ty dy ty1 dy1 → wY_destroyReceive_115 post J y3 y4 y5 y6 (nI y) (d + 1) (nI i) (nI T) (nI P) (nI N) (nI Q) (nI al) ic r0 r1 r2 r3 ty1 dy1 st S O ar qi qk qp ly wl := by
  have vy : vp_in (nI y) 16 := vp_in_nI (by omega) (by omega)
  have cy : (nI y).toNatClampNeg = y := nI_clamp (by omega)
  intro d
  induction d with
  | zero =>
    intro i hi ty1 dy1 hs
    have e : i = 36 := by omega
    rw [e] at hs
    obtain ⟨a, b⟩ := mr_KSu hs
    rw [a, b]
    exact br_t (nI_le (a := 36) (by omega) (by omega)) ⟨vy, nm_r (e' := upd st y 3) (by rw [cy]) ⟨vy, nm_r (e' := upd S y 0) (by rw [cy]) ⟨vy, nm_r (e' := upd O y 0) (by rw [cy]) ⟨vy, nm_r (e' := upd ar y 0) (by rw [cy, mr_nb0]) hq⟩⟩⟩⟩
  | succ d ih =>
    intro i hi ty1 dy1 hs
    have v1 : vp_in (nI i) 36 := vp_in_nI (by omega) (by omega)
    have c1 : (nI i).toNatClampNeg = i := nI_clamp (by omega)
    have k1 := hs.2 i (Nat.le_refl _)
    have n9 : ¬ (9 : Int32) = 0 := by decide
    have nx : ¬ dy i = nI y → ∀ q, q = nI i + 1 → wY_destroyReceive_115 post J y3 y4 y5 y6 (nI y) (d + 1) q (nI T) (nI P) (nI N) (nI Q) (nI al) ic r0 r1 r2 r3 ty1 dy1 st S O ar qi qk qp ly wl := fun z => nm_r (nI_1 i) (ih (i + 1) (by omega) _ _ (mr_KSe hs z))
    refine br_f (nI_ge (b := 36) (by omega) (by omega)) ⟨n9, nm_r (e' := nI (i / 9)) (pk_div (d := 9) (by omega) (by omega) (by omega)) ⟨n9, nm_r (e' := nI (i % 9)) (pk_rem (d := 9) (by omega) (by omega) (by omega)) ?_⟩⟩
    by_cases z0 : ty i = 0
    · have zd : ¬ dy i = nI y := fun a => mr_nm1 (a.symm.trans (mr_Nf hN (by omega) z0)) (by omega)
      by_cases zt : nI T ≤ nI (i / 9)
      · exact br_t zt (nx zd)
      · refine br_f zt ?_
        exact ym_nameA (br_t rfl (nx zd)) (br_f mr_10 ⟨v1, br_t (by rw [c1, k1.1]; exact z0) (nx zd)⟩)
    · obtain ⟨⟨w1, w2, w3⟩, _⟩ := mr_Nz hN (by omega) z0
      refine br_f (nI_ge w1 (by omega)) ?_
      have e9 : i % 9 = (i % 9 - 1) + 1 := by omega
      rw [e9]
      refine ym_name1 (by omega) h8 (br_f mr_10 ⟨v1, br_f (by rw [c1, k1.1]; exact z0) ⟨v1, ?_⟩⟩)
      by_cases zd : dy i = nI y
      · refine br_t (by rw [c1, k1.2]; exact zd) ⟨v1, ?_⟩
        by_cases z1 : ty i = 1
        · refine br_t (by rw [c1, k1.1]; exact z1) ?_
          exact ym_free (by omega) (nm_r (nI_1 i) (ih (i + 1) (by omega) _ _ (mr_KSf hs zd z1)))
        · have D8 : vp_in (nI i) 36 ∧ ∀ a : Nat → Int32, a = upd ty1 (nI i).toNatClampNeg 8 → ∀ q, q = nI i + 1 → wY_destroyReceive_115 post J y3 y4 y5 y6 (nI y) (d + 1) q (nI T) (nI P) (nI N) (nI Q) (nI al) ic r0 r1 r2 r3 a dy1 st S O ar qi qk qp ly wl := ⟨v1, nm_r (e' := upd ty1 i 8) (by rw [c1]) (nm_r (nI_1 i) (ih (i + 1) (by omega) _ _ (mr_KSd hs zd z1)))⟩
          refine br_f (by rw [c1, k1.1]; exact z1) ⟨v1, ?_⟩
          by_cases z2 : ty i = 2
          · exact br_t (by rw [c1, k1.1]; exact z2) D8
          · refine br_f (by rw [c1, k1.1]; exact z2) ⟨v1, ?_⟩
            by_cases z3 : ty i = 3
            · exact br_t (by rw [c1, k1.1]; exact z3) D8
            · refine br_f (by rw [c1, k1.1]; exact z3) ⟨v1, ?_⟩
              by_cases z4 : ty i = 4
              · exact br_t (by rw [c1, k1.1]; exact z4) D8
              · have z8 : ty i = 8 := by
                  rcases mr_Ntok hN (c := i) (by omega) with a | a | a | a | a | a
                  · exact absurd a z0
                  · exact absurd a z1
                  · exact absurd a z2
                  · exact absurd a z3
                  · exact absurd a z4
                  · exact a
                exact br_f (by rw [c1, k1.1]; exact z4) (nm_r (nI_1 i) (ih (i + 1) (by omega) _ _ (mr_KS8 hs zd z8)))
      · exact br_f (by rw [c1, k1.2]; exact zd) (nx zd)
end
end
section
/-! the queue of a dying port is thrown away, on both sides -/
section
variable {W W' : Nat → Prop} {e off T P N Q al p n t m x c D : Nat} {l : Nat → Nat} {dc ic r0 r1 r2 r3 : Int32} {tx dx st S O ar lx h mi mk mp wl rc ty dy qi qk qp ly : Nat → Int32} {v w i k z : Int32}
variable {y cnt hd : Nat}
theorem mr_disc (hy : y < al) (hyl : ¬ mr_lv st y) : ∀ d off, off + d = cnt → ∀ (W : Nat → Prop) (tail : Nat) (wl : Nat → Int32) (f : Nat → Nat) (S O ar : Nat → Int32) (ic : Int32) (l : Nat → Nat) (lx mi mk mp qi qk qp ly : Nat → Int32), mr_R W y off T P N Q al l tx dx st S O ar lx h mi mk mp ty dy qi qk qp ly → l y = d → mr_WI W al hd tail st wl f → ∃ (W' : Nat → Prop) (tail' : Nat) (wl' : Nat → Int32) (f' : Nat → Nat) (S' O' ar' : Nat → Int32) (ic' : Int32) (l' : Nat → Nat) (lx' mi' mk' mp' qi' qk' qp' ly' : Nat → Int32), mr_R W' y cnt T P N Q al l' tx dx st S' O' ar' lx' h mi' mk' mp' ty dy qi' qk' qp' ly' ∧ l' y = 0 ∧ mr_WI W' al hd tail' st wl' f' ∧ (∀ (rc : Nat → Int32) (post : SX → Prop), post (nI T, nI P, nI N, nI Q, nI tail', nI al, ic', tx, dx, st, S', O', ar', lx', h, mi', mk', mp', wl', rc) → ∀ n, d < n → wX_discardQueue_22 post (nI (y * 9)) (nI cnt) n (nI off) (nI T) (nI P) (nI N) (nI Q) (nI tail) (nI al) ic tx dx st S O ar lx h mi mk mp wl rc) ∧ (∀ (r0 r1 r2 r3 y3 y5 y6 : Int32) (post : Int32 → SY → Prop) (J : Int32 → Int32 → Int32 → Int32 → Int32 → Int32 → Int32 → Int32 → Int32 → Int32 → Int32 → Int32 → Int32 → Int32 → (Nat → Int32) → (Nat → Int32) → (Nat → Int32) → (Nat → Int32) → (Nat → Int32) → (Nat → Int32) → (Nat → Int32) → (Nat → Int32) → (Nat → Int32) → (Nat → Int32) → (Nat → Int32) → Prop), J y3 (nI tail') y5 (y6 + 1) (nI T) (nI P) (nI N) (nI Q) (nI al) ic' r0 r1 r2 r3 ty dy st S' O' ar' qi' qk' qp' ly' wl' → ∀ n, d < n → wY_destroyReceive_279 post J y3 y5 y6 (nI y) n (nI tail) (nI off) (nI T) (nI P) (nI N) (nI Q) (nI al) ic r0 r1 r2 r3 ty dy st S O ar qi qk qp ly wl) := by
  intro d
  induction d with
  | zero =>
    intro off hoff W tail wl f S O ar ic l lx mi mk mp qi qk qp ly hR hl hw
    obtain ⟨b1, b2, b3, b4, b5, b6⟩ := mr_Rb hR
    have ec : off = cnt := by omega
    subst ec
    have y16 : y < 16 := by omega
    have hb := hR.2.2.2.2.2.2.2.1 y16
    have vy : vp_in (nI y) 16 := vp_in_nI y16 (by omega)
    have cy : (nI y).toNatClampNeg = y := nI_clamp (by omega)
    refine ⟨W, tail, wl, f, S, O, ar, ic, l, lx, mi, mk, mp, qi, qk, qp, ly, hR, hl, hw, fun rc post hq n hn => ?_, fun r0 r1 r2 r3 y3 y5 y6 post J hJ n hn => ?_⟩
    · cases n with
      | zero => exact absurd hn (by omega)
      | succ n => exact br_t (nI_le (Nat.le_refl _) (by omega)) hq
    · cases n with
      | zero => exact absurd hn (by omega)
      | succ n =>
        by_cases z : 9 ≤ off
        · exact br_t (nI_le (a := 9) z (by omega)) (nm_e hJ)
        · refine br_f (nI_ge (b := 9) (by omega) (by omega)) ⟨vy, br_f ?_ (nm_e hJ)⟩
          rw [cy, hR.2.2.2.1 y y16, hl]
          decide
  | succ d ih =>
    intro off hoff W tail wl f S O ar ic l lx mi mk mp qi qk qp ly hR hl hw
    obtain ⟨b1, b2, b3, b4, b5, b6⟩ := mr_Rb hR
    have y16 : y < 16 := by omega
    have hal : al ≤ 16 := by omega
    have hb := hR.2.2.2.2.2.2.2.1 y16
    have hI := hR.2.2.2.2.2.2.2.2
    have vy : vp_in (nI y) 16 := vp_in_nI y16 (by omega)
    have cy : (nI y).toNatClampNeg = y := nI_clamp (by omega)
    have hly : ly y = nI (d + 1) := (hR.2.2.2.1 y y16).trans (by rw [hl])
    have pos : 0 < ly (nI y).toNatClampNeg := by
      rw [cy, hly]
      exact nI_lt (a := 0) (by omega) (by omega)
    have ei : nI (y * 9) + nI off = nI (y * 9 + off) := nI_add _ _
    have vi : vp_in (nI (y * 9) + nI off) 144 := by
      rw [ei]
      exact vp_in_nI (by omega) (by omega)
    have ci : (nI (y * 9) + nI off).toNatClampNeg = y * 9 + off := by
      rw [ei]
      exact nI_clamp (by omega)
    have v9 : vp_in (nI y * 9) 144 := by
      rw [mr_9]
      exact vp_in_nI (by omega) (by omega)
    have c9 : (nI y * 9).toNatClampNeg = y * 9 := by
      rw [mr_9]
      exact nI_clamp (by omega)
    have g2 : mk (y * 9 + off) = qk (y * 9) := by
      have g := hR.2.2.2.2.2.1 y 0 y16 (by omega)
      rw [if_pos rfl, Nat.zero_add] at g
      exact g
    have g3 : mp (y * 9 + off) = qp (y * 9) := by
      have g := hR.2.2.2.2.2.2.1 y 0 y16 (by omega)
      rw [if_pos rfl, Nat.zero_add] at g
      exact g
    have M0 : mr_mok al W st h y (qk (y * 9)) (qp (y * 9)) := hI.2.2.2.2.2.1 y 0 y16 (by omega)
    have R1 := mr_Rpop hR y16 hl mr_Shf mr_Shf mr_Shf
    have RW : ¬ qk (y * 9) = 3 → mr_R W y (off + 1) T P N Q al (mr_ul l y d) tx dx st S O ar lx h mi mk mp ty dy (mr_shf y d qi) (mr_shf y d qk) (mr_shf y d qp) (upd ly y (nI d)) := fun a => mr_RW R1 (fun q _ => ⟨fun b => b.elim (fun c => c) (fun c => absurd c.1 a), Or.inl⟩)
    rcases M0 with ⟨hk0, hz⟩ | ⟨x, hx, hz, kk⟩
    · have n1 : ¬ qk (y * 9) = 1 := by rcases hk0 with a | a <;> rw [a] <;> decide
      have n2 : ¬ qk (y * 9) = 2 := by rcases hk0 with a | a <;> rw [a] <;> decide
      have n3 : ¬ qk (y * 9) = 3 := by rcases hk0 with a | a <;> rw [a] <;> decide
      obtain ⟨W', tail', wl', f', S', O', ar', ic', l', lx', mi', mk', mp', qi', qk', qp', ly', r, z, w, X, Y⟩ := ih (off + 1) (by omega) W tail wl f S O ar ic _ lx mi mk mp _ _ _ _ (RW n3) mr_uls hw
      refine ⟨W', tail', wl', f', S', O', ar', ic', l', lx', mi', mk', mp', qi', qk', qp', ly', r, z, w, fun rc post hq n hn => ?_, fun r0 r1 r2 r3 y3 y5 y6 post J hJ n hn => ?_⟩
      · cases n with
        | zero => exact absurd hn (by omega)
        | succ n => exact br_f (nI_ge (by omega) (by omega)) ⟨vi, nm_r (e' := qp (y * 9)) (by rw [ci]; exact g3) ⟨vi, nm_r (e' := qk (y * 9)) (by rw [ci]; exact g2) (br_f n1 (br_f n2 (br_f n3 (nm_r (nI_1 off) (X rc post hq n (by omega))))))⟩⟩
      · cases n with
        | zero => exact absurd hn (by omega)
        | succ n => exact br_f (nI_ge (b := 9) (by omega) (by omega)) ⟨vy, br_t pos ⟨v9, nm_r (e' := qk (y * 9)) (by rw [c9]) ⟨v9, nm_r (e' := qp (y * 9)) (by rw [c9]) (ym_rd (by omega) b3 (by omega) hly (br_f n1 (br_f n2 (br_f n3 (nm_r (nI_1 off) (Y r0 r1 r2 r3 y3 y5 y6 post J hJ n (by omega)))))))⟩⟩⟩
    · have x16 : x < 16 := by omega
      rcases kk with k1 | k2 | ⟨k3, s2, _, nW⟩
      · obtain ⟨S1, ar1, ic1, l1, lx1, mi1, mk1, mp1, qi1, qk1, qp1, ly1, R2, le, dX, dY⟩ := mr_dec (RW (by rw [k1]; decide)) hx (fun _ => hyl) ic
        obtain ⟨W', tail', wl', f', S', O', ar', ic', l', lx', mi', mk', mp', qi', qk', qp', ly', r, z, w, X, Y⟩ := ih (off + 1) (by omega) W tail wl f S1 O ar1 ic1 l1 lx1 mi1 mk1 mp1 qi1 qk1 qp1 ly1 R2 ((le y16).trans mr_uls) hw
        refine ⟨W', tail', wl', f', S', O', ar', ic', l', lx', mi', mk', mp', qi', qk', qp', ly', r, z, w, fun rc post hq n hn => ?_, fun r0 r1 r2 r3 y3 y5 y6 post J hJ n hn => ?_⟩
        · cases n with
          | zero => exact absurd hn (by omega)
          | succ n => exact br_f (nI_ge (by omega) (by omega)) ⟨vi, nm_r (e' := nI x) (by rw [ci]; exact g3.trans hz) ⟨vi, nm_r (e' := qk (y * 9)) (by rw [ci]; exact g2) (br_t k1 (dX (nI tail) wl rc _ (nm_r (nI_1 off) (X rc post hq n (by omega)))))⟩⟩
        · cases n with
          | zero => exact absurd hn (by omega)
          | succ n => exact br_f (nI_ge (b := 9) (by omega) (by omega)) ⟨vy, br_t pos ⟨v9, nm_r (e' := qk (y * 9)) (by rw [c9]) ⟨v9, nm_r (e' := nI x) (by rw [c9]; exact hz) (ym_rd (by omega) b3 (by omega) hly (br_t k1 (dY r0 r1 r2 r3 wl _ (nm_r (nI_1 off) (Y r0 r1 r2 r3 y3 y5 y6 post J hJ n (by omega))))))⟩⟩⟩
      · have n1 : ¬ qk (y * 9) = 1 := by
          rw [k2]
          decide
        by_cases lv : mr_lv st x
        · have R2 := mr_RO (v := O x - 1) (RW (by rw [k2]; decide)) lv
          obtain ⟨W', tail', wl', f', S', O', ar', ic', l', lx', mi', mk', mp', qi', qk', qp', ly', r, z, w, X, Y⟩ := ih (off + 1) (by omega) W tail wl f S (upd O x (O x - 1)) ar ic _ lx mi mk mp _ _ _ _ R2 mr_uls hw
          refine ⟨W', tail', wl', f', S', O', ar', ic', l', lx', mi', mk', mp', qi', qk', qp', ly', r, z, w, fun rc post hq n hn => ?_, fun r0 r1 r2 r3 y3 y5 y6 post J hJ n hn => ?_⟩
          · cases n with
            | zero => exact absurd hn (by omega)
            | succ n => exact br_f (nI_ge (by omega) (by omega)) ⟨vi, nm_r (e' := nI x) (by rw [ci]; exact g3.trans hz) ⟨vi, nm_r (e' := qk (y * 9)) (by rw [ci]; exact g2) (br_f n1 (br_t k2 (xm_so1 x16 lv (nm_r (nI_1 off) (X rc post hq n (by omega))))))⟩⟩
          · cases n with
            | zero => exact absurd hn (by omega)
            | succ n => exact br_f (nI_ge (b := 9) (by omega) (by omega)) ⟨vy, br_t pos ⟨v9, nm_r (e' := qk (y * 9)) (by rw [c9]) ⟨v9, nm_r (e' := nI x) (by rw [c9]; exact hz) (ym_rd (by omega) b3 (by omega) hly (br_f n1 (br_t k2 (ym_so1 (by omega) b3 lv (nm_r (nI_1 off) (Y r0 r1 r2 r3 y3 y5 y6 post J hJ n (by omega)))))))⟩⟩⟩
        · obtain ⟨W', tail', wl', f', S', O', ar', ic', l', lx', mi', mk', mp', qi', qk', qp', ly', r, z, w, X, Y⟩ := ih (off + 1) (by omega) W tail wl f S O ar ic _ lx mi mk mp _ _ _ _ (RW (by rw [k2]; decide)) mr_uls hw
          refine ⟨W', tail', wl', f', S', O', ar', ic', l', lx', mi', mk', mp', qi', qk', qp', ly', r, z, w, fun rc post hq n hn => ?_, fun r0 r1 r2 r3 y3 y5 y6 post J hJ n hn => ?_⟩
          · cases n with
            | zero => exact absurd hn (by omega)
            | succ n => exact br_f (nI_ge (by omega) (by omega)) ⟨vi, nm_r (e' := nI x) (by rw [ci]; exact g3.trans hz) ⟨vi, nm_r (e' := qk (y * 9)) (by rw [ci]; exact g2) (br_f n1 (br_t k2 (xm_so0 x16 lv (nm_r (nI_1 off) (X rc post hq n (by omega))))))⟩⟩
          · cases n with
            | zero => exact absurd hn (by omega)
            | succ n => exact br_f (nI_ge (b := 9) (by omega) (by omega)) ⟨vy, br_t pos ⟨v9, nm_r (e' := qk (y * 9)) (by rw [c9]) ⟨v9, nm_r (e' := nI x) (by rw [c9]; exact hz) (ym_rd (by omega) b3 (by omega) hly (br_f n1 (br_t k2 (ym_so0 x16 b3 lv (nm_r (nI_1 off) (Y r0 r1 r2 r3 y3 y5 y6 post J hJ n (by omega)))))))⟩⟩⟩
      · have n1 : ¬ qk (y * 9) = 1 := by
          rw [k3]
          decide
        have n2 : ¬ qk (y * 9) = 2 := by
          rw [k3]
          decide
        obtain ⟨t16, w1⟩ := mr_WIp hal hw hx s2 nW
        have vt : vp_in (nI tail) 16 := vp_in_nI t16 (by omega)
        have ct : (nI tail).toNatClampNeg = tail := nI_clamp (by omega)
        have R2 := mr_RW (W' := fun q => W q ∨ q = x) R1 (fun q hq => ⟨fun b => b.elim Or.inl (fun c => Or.inr (mr_inj (c.2.symm.trans hz) (by omega) (by omega))), fun b => b.elim Or.inl (fun c => Or.inr ⟨k3, by rw [c]; exact hz⟩)⟩)
        obtain ⟨W', tail', wl', f', S', O', ar', ic', l', lx', mi', mk', mp', qi', qk', qp', ly', r, z, w, X, Y⟩ := ih (off + 1) (by omega) (fun q => W q ∨ q = x) (tail + 1) (upd wl tail (nI x)) _ S O ar ic _ lx mi mk mp _ _ _ _ R2 mr_uls w1
        refine ⟨W', tail', wl', f', S', O', ar', ic', l', lx', mi', mk', mp', qi', qk', qp', ly', r, z, w, fun rc post hq n hn => ?_, fun r0 r1 r2 r3 y3 y5 y6 post J hJ n hn => ?_⟩
        · cases n with
          | zero => exact absurd hn (by omega)
          | succ n => exact br_f (nI_ge (by omega) (by omega)) ⟨vi, nm_r (e' := nI x) (by rw [ci]; exact g3.trans hz) ⟨vi, nm_r (e' := qk (y * 9)) (by rw [ci]; exact g2) (br_f n1 (br_f n2 (br_t k3 ⟨vt, nm_r (e' := upd wl tail (nI x)) (by rw [ct]) (nm_r (nI_1 tail) (nm_r (nI_1 off) (X rc post hq n (by omega))))⟩)))⟩⟩
        · cases n with
          | zero => exact absurd hn (by omega)
          | succ n => exact br_f (nI_ge (b := 9) (by omega) (by omega)) ⟨vy, br_t pos ⟨v9, nm_r (e' := qk (y * 9)) (by rw [c9]) ⟨v9, nm_r (e' := nI x) (by rw [c9]; exact hz) (ym_rd (by omega) b3 (by omega) hly (br_f n1 (br_f n2 (br_t k3 (br_f (nI_ge (b := 16) t16 (by omega)) ⟨vt, nm_r (e' := upd wl tail (nI x)) (by rw [ct]) (nm_r (nI_1 tail) (nm_r (nI_1 off) (Y r0 r1 r2 r3 y3 y5 y6 post J hJ n (by omega))))⟩)))))⟩⟩⟩
end
end
section
/-! destroyReceive -/
section
variable {W W' : Nat → Prop} {e off T P N Q al p n t m x c D : Nat} {l : Nat → Nat} {dc ic r0 r1 r2 r3 : Int32} {tx dx st S O ar lx h mi mk mp wl rc ty dy qi qk qp ly : Nat → Int32} {v w i k z : Int32}
theorem mr_out : ∀ d hd, hd + d = 16 → ∀ (W : Nat → Prop) (tail : Nat) (wl : Nat → Int32) (f : Nat → Nat) (tx dx ty dy st S O ar : Nat → Int32) (ic : Int32) (l : Nat → Nat) (lx mi mk mp qi qk qp ly : Nat → Int32), mr_R W 16 0 T P N Q al l tx dx st S O ar lx h mi mk mp ty dy qi qk qp ly → mr_WI W al hd tail st wl f → ∃ (tail' : Nat) (wl' tx' dx' ty' dy' st' S' O' ar' : Nat → Int32) (ic' : Int32) (l' : Nat → Nat) (lx' mi' mk' mp' qi' qk' qp' ly' : Nat → Int32), mr_R (fun _ => False) 16 0 T P N Q al l' tx' dx' st' S' O' ar' lx' h mi' mk' mp' ty' dy' qi' qk' qp' ly' ∧ (∀ (rc : Nat → Int32) (post : Int32 → SX → Prop), post (nI tail') (nI T, nI P, nI N, nI Q, nI tail', nI al, ic', tx', dx', st', S', O', ar', lx', h, mi', mk', mp', wl', rc) → wX_destroyReceive_41 post (d + 1) (nI hd) (nI T) (nI P) (nI N) (nI Q) (nI tail) (nI al) ic tx dx st S O ar lx h mi mk mp wl rc) ∧ (∀ (r0 r1 r2 r3 : Int32) (post : Int32 → SY → Prop), post (nI tail') (nI T, nI P, nI N, nI Q, nI al, ic', r0, r1, r2, r3, ty', dy', st', S', O', ar', qi', qk', qp', ly', wl') → wY_destroyReceive_65 post (d + 1) (nI hd) (nI tail) (nI hd) (nI hd) (nI T) (nI P) (nI N) (nI Q) (nI al) ic r0 r1 r2 r3 ty dy st S O ar qi qk qp ly wl) := by
  intro d
  induction d with
  | zero =>
    intro hd hhd W tail wl f tx dx ty dy st S O ar ic l lx mi mk mp qi qk qp ly hR hw
    obtain ⟨b1, b2, b3, b4, b5, b6⟩ := mr_Rb hR
    have t16 := mr_WI16 (by omega) hw
    have h0 := hw.1
    have et : tail = 16 := by omega
    have eh : hd = 16 := by omega
    subst et
    subst eh
    refine ⟨16, wl, tx, dx, ty, dy, st, S, O, ar, ic, l, lx, mi, mk, mp, qi, qk, qp, ly, mr_RW hR (fun x hx => ⟨fun q => ?_, fun q => absurd q (fun g => g)⟩), fun rc post hq => br_t (nI_le (a := 16) (Nat.le_refl _) (by omega)) hq, fun r0 r1 r2 r3 post hq => br_t (nI_le (a := 16) (Nat.le_refl _) (by omega)) hq⟩
    obtain ⟨j, a, b, _⟩ := (hw.2.2.2.2 x hx).mp q
    omega
  | succ d ih =>
    intro hd hhd W tail wl f tx dx ty dy st S O ar ic l lx mi mk mp qi qk qp ly hR hw
    obtain ⟨b1, b2, b3, b4, b5, b6⟩ := mr_Rb hR
    have hal : al ≤ 16 := by omega
    have t16 := mr_WI16 hal hw
    have h0 := hw.1
    by_cases ht : hd < tail
    · obtain ⟨hwl, hy⟩ := hw.2.1 hd ht
      have y16 : f hd < 16 := by omega
      have vy : vp_in (nI (f hd)) 16 := vp_in_nI y16 (by omega)
      have cy : (nI (f hd)).toNatClampNeg = f hd := nI_clamp (by omega)
      have vh : vp_in (nI hd) 16 := vp_in_nI (by omega) (by omega)
      have ch : (nI hd).toNatClampNeg = hd := nI_clamp (by omega)
      have hI := hR.2.2.2.2.2.2.2.2
      have elx : lx (f hd) = nI (l (f hd)) := by
        have a := hR.2.2.1 (f hd) y16
        rw [if_neg (by omega)] at a
        exact a
      have R9 := mr_R9 (ty' := mr_kfT 36 (f hd) ty dy) (dy' := mr_kfD 36 (f hd) ty dy) (tx' := mr_kfT 32 (f hd) tx dx) (dx' := mr_kfD 32 (f hd) tx dx) hR hy (fun c hc => ⟨if_pos hc, if_pos hc⟩) (fun c hc => ⟨if_pos hc, if_pos hc⟩) (fun _ => (hw.2.2.2.2 (f hd) y16).mpr ⟨hd, Nat.le_refl _, ht, rfl⟩)
      have W9 := mr_WId hal hw ht
      have hyl : ¬ mr_lv (upd st (f hd) 3) (f hd) := by
        unfold mr_lv
        rw [pk_us]
        decide
      obtain ⟨W1, tail1, wl1, f1, S1, O1, ar1, ic1, l1, lx1, mi1, mk1, mp1, qi1, qk1, qp1, ly1, r, z, w, X, Y⟩ := mr_disc (cnt := l (f hd)) hy hyl (l (f hd)) 0 (by omega) _ tail wl f _ _ _ ic l _ mi mk mp qi qk qp ly R9 rfl W9
      obtain ⟨tail', wl', tx', dx', ty', dy', st', S', O', ar', ic', l', lx', mi', mk', mp', qi', qk', qp', ly', rF, XI, YI⟩ := ih (hd + 1) (by omega) W1 tail1 wl1 f1 _ _ _ _ _ S1 O1 ar1 ic1 l1 lx1 mi1 mk1 mp1 qi1 qk1 qp1 ly1 (mr_Rz r z) w
      refine ⟨tail', wl', tx', dx', ty', dy', st', S', O', ar', ic', l', lx', mi', mk', mp', qi', qk', qp', ly', rF, fun rc post hq => ?_, fun r0 r1 r2 r3 post hq => ?_⟩
      · have DQ : ∀ q : SX → Prop, q (nI T, nI P, nI N, nI Q, nI tail1, nI al, ic1, mr_kfT 32 (f hd) tx dx, mr_kfD 32 (f hd) tx dx, upd st (f hd) 3, S1, O1, ar1, lx1, h, mi1, mk1, mp1, wl1, rc) → wpX_discardQueue q (nI T, nI P, nI N, nI Q, nI tail, nI al, ic, mr_kfT 32 (f hd) tx dx, mr_kfD 32 (f hd) tx dx, upd st (f hd) 3, upd S (f hd) 0, upd O (f hd) 0, upd ar (f hd) 0, lx, h, mi, mk, mp, wl, rc) (nI (f hd)) := by
          intro q hq
          unfold wpX_discardQueue
          exact nm_r mr_9 ⟨vy, nm_r (e' := nI (l (f hd))) (by rw [cy]; exact elx) ⟨vy, nm_r (e' := upd lx (f hd) 0) (by rw [cy]) ⟨l (f hd) + 1, X rc q hq (l (f hd) + 1) (by omega)⟩⟩⟩
        refine br_f (nI_ge (b := 16) (by omega) (by omega)) (br_f (nI_ge ht (by omega)) ⟨vh, nm_r (e' := nI (f hd)) (by rw [ch]; exact hwl) ?_⟩)
        refine xm_ki ⟨vy, nm_r (e' := upd st (f hd) 3) (by rw [cy]) ⟨vy, nm_r (e' := upd S (f hd) 0) (by rw [cy]) ⟨vy, nm_r (e' := upd O (f hd) 0) (by rw [cy]) ⟨vy, nm_r (e' := upd ar (f hd) 0) (by rw [cy, mr_nb0]) ?_⟩⟩⟩⟩
        exact DQ _ (nm_r (nI_1 hd) (XI rc post hq))
      · refine br_f (nI_ge (b := 16) (by omega) (by omega)) (br_t (nI_lt ht (by omega)) ⟨vh, nm_r (e' := nI (f hd)) (by rw [ch]; exact hwl) (nm_r (nI_1 hd) (br_f (nI_pos (by omega)) (br_t (nI_lt (by omega) (by omega)) (nm_r (nI_1 hd) ⟨37, ?_⟩))))⟩)
        refine ym_kiL b1 b4 hal hy hI.1 ⟨l (f hd) + 1, ?_⟩ 36 0 (by omega) ty dy mr_KS0
        refine Y r0 r1 r2 r3 _ _ _ post _ ?_ (l (f hd) + 1) (by omega)
        rw [nI_1]
        exact YI r0 r1 r2 r3 post hq
    · have et : tail = hd := by omega
      subst et
      refine ⟨tail, wl, tx, dx, ty, dy, st, S, O, ar, ic, l, lx, mi, mk, mp, qi, qk, qp, ly, mr_RW hR (fun x hx => ⟨fun q => ?_, fun q => absurd q (fun g => g)⟩), fun rc post hq => br_f (nI_ge (b := 16) (by omega) (by omega)) (br_t (nI_le (Nat.le_refl _) (by omega)) hq), fun r0 r1 r2 r3 post hq => br_f (nI_ge (b := 16) (by omega) (by omega)) (br_f (nI_nlt (Nat.le_refl _) (by omega)) hq)⟩
      obtain ⟨j, a, b, _⟩ := (hw.2.2.2.2 x hx).mp q
      omega
theorem xm_dr {post : Int32 → SX → Prop} (ht : t < T) (hT : T ≤ 4) (hm : m < N) (hN : N ≤ 8) (h0 : ¬ tx (t * 8 + m) &&& 1 = 0) (hd : dx (t * 8 + m) = nI p) (hq : wX_destroyReceive_41 post 17 (nI 0) (nI T) (nI P) (nI N) (nI Q) (nI 1) (nI al) ic tx dx st S O ar lx h mi mk mp (upd wl 0 (nI p)) rc) : wpX_destroyReceive post (nI T, nI P, nI N, nI Q, dc, nI al, ic, tx, dx, st, S, O, ar, lx, h, mi, mk, mp, wl, rc) (nI t) (nI (m + 1)) := by
  unfold wpX_destroyReceive
  refine xm_rr0 ht hT hm hN h0 (br_t rfl ?_)
  exact xm_cell ⟨vp_in_nI (by omega) (by omega), nm_r (e' := upd wl 0 (nI p)) (by rw [nI_clamp (by omega), hd]) ⟨17, hq⟩⟩
theorem ym_dr {post : Int32 → SY → Prop} (ht : t < T) (hT : T ≤ 4) (hm : m < N) (hN : N ≤ 8) (h0 : ¬ ty (t * 9 + (m + 1)) &&& 1 = 0) (hd : dy (t * 9 + (m + 1)) = nI p) (hq : wY_destroyReceive_65 post 17 (nI 0) (nI 1) (nI 0) (nI 0) (nI T) (nI P) (nI N) (nI Q) (nI al) ic r0 r1 r2 r3 ty dy st S O ar qi qk qp ly (upd wl 0 (nI p))) : wpY_destroyReceive post (nI T, nI P, nI N, nI Q, nI al, ic, r0, r1, r2, r3, ty, dy, st, S, O, ar, qi, qk, qp, ly, wl) (nI t) (nI (m + 1)) := by
  have v2 := mr_yv (t := t) (n := m + 1) (by omega) (by omega)
  have c2 := mr_ycl (t := t) (n := m + 1) (by omega) (by omega)
  unfold wpY_destroyReceive
  refine ym_task1 ht hT (br_f mr_10 ?_)
  exact ym_name1 hm hN (br_f mr_10 ⟨v2, br_f (by rw [c2]; exact h0) ⟨v2, nm_r (e' := upd wl 0 (nI p)) (by rw [c2, hd]) ⟨17, hq⟩⟩⟩)
end
theorem i_vc_destroyReceive {k : Nat} {u : SX} {v : SY} (I : i_Rel k u v) (hk : k + 5 ≤ 2564) (v1 : Int32) (v2 : Int32) : wpX_destroyReceive (fun r u' => wpY_destroyReceive (fun r' v' => r' = r ∧ i_Rel (k + 5) u' v') v v1 v2) u v1 v2 := by
  obtain ⟨T, P, N, Q, al, l, dc, ic, tx, dx, st, S, O, ar, lx, h, mi, mk, mp, wl, rc, ty, dy, qi, qk, qp, ly, rfl, rfl, hR⟩ := I
  obtain ⟨b1, b2, b3, b4, b5, b6⟩ := mr_Rb hR
  have F := mr_fin (kk := k + 5) (dc := dc) (ic := ic) (wl := wl) (rc := rc) hR rfl rfl rfl rfl
  rcases mr_tk (T := T) v1 (by omega) with hy | ⟨t, ht, rfl⟩
  · exact xm_destroyReceiveT hy (ym_destroyReceiveT hy ⟨rfl, F⟩)
  rcases mr_nk (N := N) v2 b4 with hn | ⟨m, hm, rfl⟩
  · exact xm_destroyReceiveN ht b1 hn (ym_destroyReceiveN ht b1 hn ⟨rfl, F⟩)
  have hI := hR.2.2.2.2.2.2.2.2
  have nn := hR.2.1 t m (by omega) (by omega)
  have tk := mr_Ntok (c := t * 9 + (m + 1)) hI.1 (by omega)
  by_cases hr : ty (t * 9 + (m + 1)) &&& 1 = 0
  · exact xm_destroyReceiveF ht b1 hm b4 (by rw [nn.1]; exact hr) (ym_destroyReceiveF ht b1 hm b4 hr ⟨rfl, F⟩)
  have hr' : ty (t * 9 + (m + 1)) = 1 ∨ ty (t * 9 + (m + 1)) = 3 := Classical.byContradiction (fun a => hr ((mr_a1 tk).mpr a))
  obtain ⟨p, hp, hd, hs⟩ := mr_Nr hI.1 (by omega) hr'
  have X0 : ¬ tx (t * 8 + m) &&& 1 = 0 := by rw [nn.1]; exact hr
  have R1 := mr_Rw1 (y := p) hR (by rw [hs]; decide)
  have W1 : mr_WI (fun x => x = p) al 0 1 st (upd wl 0 (nI p)) (fun _ => p) := by
    refine ⟨by omega, fun j hj => ?_, fun i j hi hj _ => by omega, fun j hj => absurd hj (by omega), fun x hx => ⟨fun q => ⟨0, by omega, by omega, q.symm⟩, fun q => ?_⟩⟩
    · have e : j = 0 := by omega
      rw [e, pk_us]
      exact ⟨rfl, hp⟩
    · obtain ⟨j, _, _, c⟩ := q
      exact c.symm
  obtain ⟨tail', wl', tx', dx', ty', dy', st', S', O', ar', ic', l', lx', mi', mk', mp', qi', qk', qp', ly', rF, XI, YI⟩ := mr_out 16 0 (by omega) _ 1 _ _ tx dx ty dy st S O ar ic l lx mi mk mp qi qk qp ly R1 W1
  exact xm_dr ht b1 hm b4 X0 (nn.2.trans hd) (XI rc _ (ym_dr ht b1 hm b4 hr hd (YI _ _ _ _ _ ⟨rfl, mr_fin rF rfl rfl rfl rfl⟩)))
end
