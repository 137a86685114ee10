/-! what the calls do to names, in the relation -/
theorem mr_rng {T N t m : Nat} (hN : N ≤ 8) (ht : t < T) (hm : m < N) : (t * 9 + (m + 1)) / 9 < T ∧ 1 ≤ (t * 9 + (m + 1)) % 9 ∧ (t * 9 + (m + 1)) % 9 ≤ N := by omega
section
variable {W W' : Nat → Prop} {e off T P N Q al p n t m x c D : Nat} {l : Nat → Nat} {tx dx st S O ar lx h mi mk mp ty dy qi qk qp ly : Nat → Int32} {v w i k z : Int32}
theorem mr_Rb (hR : mr_R W e off T P N Q al l tx dx st S O ar lx h mi mk mp ty dy qi qk qp ly) : T ≤ 4 ∧ 4 ≤ P ∧ P ≤ 16 ∧ N ≤ 8 ∧ Q ≤ 8 ∧ al ≤ P := by
  have := hR.1
  unfold mr_B at this
  omega
/-- a send right comes to a name: a new one, or one with the receive right alone -/
theorem mr_Rsnd (hR : mr_R W e off T P N Q al l tx dx st S O ar lx h mi mk mp ty dy qi qk qp ly) (hp : p < al) (hl : mr_lv st p) (ht : t < T) (hm : m < N) (hc : (ty (t * 9 + (m + 1)) = 0 ∧ v = 2) ∨ (ty (t * 9 + (m + 1)) = 1 ∧ dy (t * 9 + (m + 1)) = nI p ∧ v = 3)) : mr_R W e off T P N Q al l (upd tx (t * 8 + m) v) (upd dx (t * 8 + m) (nI p)) st S O ar lx h mi mk mp (upd ty (t * 9 + (m + 1)) v) (upd dy (t * 9 + (m + 1)) (nI p)) qi qk qp ly := by
  obtain ⟨b1, b2, b3, b4, b5, b6⟩ := mr_Rb hR
  have hI := hR.2.2.2.2.2.2.2.2
  rcases hc with ⟨h0, rfl⟩ | ⟨h1, hd, rfl⟩
  · exact mr_Rn hR (by omega) (Or.inr ⟨mr_rng b4 ht hm, p, hp, rfl, Or.inr (Or.inr (Or.inl ⟨rfl, hl⟩))⟩) (fun a => absurd a (by decide))
  · obtain ⟨p', hp', hd', hs⟩ := mr_Nr hI.1 (c := t * 9 + (m + 1)) (by omega) (Or.inl h1)
    have ee : p' = p := mr_inj (hd'.symm.trans hd) (by omega) (by omega)
    rw [ee] at hs
    exact mr_Rn hR (by omega) (Or.inr ⟨mr_rng b4 ht hm, p, hp, rfl, Or.inr (Or.inl ⟨rfl, hs⟩)⟩) (fun _ c' h36 hne hr hq => hne (hI.2.1 c' (t * 9 + (m + 1)) h36 (by omega) hr (Or.inl h1) (hq.trans hd.symm)))
/-- a send-once right comes to a new name -/
theorem mr_Rso (hR : mr_R W e off T P N Q al l tx dx st S O ar lx h mi mk mp ty dy qi qk qp ly) (hp : p < al) (hl : mr_lv st p) (ht : t < T) (hm : m < N) : mr_R W e off T P N Q al l (upd tx (t * 8 + m) 4) (upd dx (t * 8 + m) (nI p)) st S O ar lx h mi mk mp (upd ty (t * 9 + (m + 1)) 4) (upd dy (t * 9 + (m + 1)) (nI p)) qi qk qp ly := by
  obtain ⟨b1, b2, b3, b4, b5, b6⟩ := mr_Rb hR
  exact mr_Rn hR (by omega) (Or.inr ⟨mr_rng b4 ht hm, p, hp, rfl, Or.inr (Or.inr (Or.inr (Or.inl ⟨rfl, hl⟩)))⟩) (fun a => absurd a (by decide))
/-- the receive right that is under way comes to a name -/
theorem mr_Rrcv (hR : mr_R W e off T P N Q al l tx dx st S O ar lx h mi mk mp ty dy qi qk qp ly) (hw : ∀ y, y < 16 → (W y ↔ y = x)) (hx : x < al) (hs : st x = 2) (ht : t < T) (hm : m < N) (hc : v = 1 ∨ v = 3) : mr_R (fun _ => False) e off T P N Q al l (upd tx (t * 8 + m) v) (upd dx (t * 8 + m) (nI x)) (upd st x 1) S O ar lx h mi mk mp (upd ty (t * 9 + (m + 1)) v) (upd dy (t * 9 + (m + 1)) (nI x)) qi qk qp ly := by
  obtain ⟨b1, b2, b3, b4, b5, b6⟩ := mr_Rb hR
  have hI := hR.2.2.2.2.2.2.2.2
  have r1 := mr_R8 hR hx ((hw x (by omega)).mpr rfl)
  have r2 := mr_RW (W' := fun _ => False) r1 (fun y hy => ⟨fun q => q.2 ((hw y hy).mp q.1), fun q => absurd q id⟩)
  refine mr_Rn r2 (by omega) (Or.inr ⟨mr_rng b4 ht hm, x, hx, rfl, ?_⟩) (fun _ c' h36 _ hr hq => ?_)
  · rcases hc with rfl | rfl
    · exact Or.inl ⟨rfl, pk_us⟩
    · exact Or.inr (Or.inl ⟨rfl, pk_us⟩)
  · obtain ⟨p', hp', hd', hs'⟩ := mr_Nr hI.1 h36 hr
    have ee : p' = x := mr_inj (hd'.symm.trans hq) (by omega) (by omega)
    rw [ee, hs] at hs'
    exact absurd hs' (by decide)
/-- a name with both rights loses its send right -/
theorem mr_R31 (hR : mr_R W e off T P N Q al l tx dx st S O ar lx h mi mk mp ty dy qi qk qp ly) (ht : t < T) (hm : m < N) (h3 : ty (t * 9 + (m + 1)) = 3) : mr_R W e off T P N Q al l (upd tx (t * 8 + m) 1) dx st S O ar lx h mi mk mp (upd ty (t * 9 + (m + 1)) 1) dy qi qk qp ly := by
  obtain ⟨b1, b2, b3, b4, b5, b6⟩ := mr_Rb hR
  have hI := hR.2.2.2.2.2.2.2.2
  obtain ⟨p', hp', hd', hs⟩ := mr_Nr hI.1 (c := t * 9 + (m + 1)) (by omega) (Or.inr h3)
  exact mr_Rt hR (by omega) hd' (Or.inr ⟨mr_rng b4 ht hm, p', hp', rfl, Or.inl ⟨rfl, hs⟩⟩) (fun _ c' h36 hne hr hq => hne (hI.2.1 c' (t * 9 + (m + 1)) h36 (by omega) hr (Or.inr h3) (hq.trans hd'.symm)))
/-- the receive right leaves its name, for the queue of D -/
theorem mr_Rmv {r : Nat} (hR : mr_R (fun _ => False) e off T P N Q al l tx dx st S O ar lx h mi mk mp ty dy qi qk qp ly) (ht : t < T) (hm : m < N) (h3 : ty (t * 9 + (m + 1)) = 1 ∨ ty (t * 9 + (m + 1)) = 3) (hd : dy (t * 9 + (m + 1)) = nI c) (hc : c < al) (hs : st c = 1) (hD : mr_rc st h r D) (ho : ¬ mr_on h c r D) (hv : (ty (t * 9 + (m + 1)) = 1 ∧ v = 0 ∧ w = -1) ∨ (ty (t * 9 + (m + 1)) = 3 ∧ v = 2 ∧ w = nI c)) : mr_R (fun x => x = c) e off T P N Q al l (upd tx (t * 8 + m) v) (upd dx (t * 8 + m) w) (upd st c 2) S O ar lx (upd h c (nI D)) mi mk mp (upd ty (t * 9 + (m + 1)) v) (upd dy (t * 9 + (m + 1)) w) qi qk qp ly := by
  obtain ⟨b1, b2, b3, b4, b5, b6⟩ := mr_Rb hR
  have hI := hR.2.2.2.2.2.2.2.2
  have r1 : mr_R (fun _ => False) e off T P N Q al l (upd tx (t * 8 + m) v) (upd dx (t * 8 + m) w) st S O ar lx h mi mk mp (upd ty (t * 9 + (m + 1)) v) (upd dy (t * 9 + (m + 1)) w) qi qk qp ly := by
    rcases hv with ⟨_, rfl, rfl⟩ | ⟨_, rfl, rfl⟩
    · exact mr_Rf hR (by omega)
    · exact mr_Rn hR (by omega) (Or.inr ⟨mr_rng b4 ht hm, c, hc, rfl, Or.inr (Or.inr (Or.inl ⟨rfl, Or.inl hs⟩))⟩) (fun a => absurd a (by decide))
  have hv' : ¬ (v = 1 ∨ v = 3) := by
    rcases hv with ⟨_, rfl, _⟩ | ⟨_, rfl, _⟩
    · decide
    · decide
  have r2 := mr_R7 r1 hc (by rw [hs]; decide) (fun x h36 hq hr => by
    by_cases ee : x = t * 9 + (m + 1)
    · rw [ee, pk_us] at hr
      exact hv' hr
    · rw [pk_un ee] at hr hq
      exact ee (hI.2.1 x (t * 9 + (m + 1)) h36 (by omega) hr h3 (hq.trans hd.symm))) hD ho
  exact mr_RW r2 (fun x _ => ⟨fun q => q.elim (fun a => absurd a id) id, Or.inr⟩)
end
