/-! send: both sides -/
section
variable {W W' : Nat → Prop} {e off T P N Q al p n t m x c D : Nat} {l : Nat → Nat} {dc ic r0 r1 r2 r3 : Int32} {tx dx st S O ar lx h mi mk mp wl rc ty dy qi qk qp ly : Nat → Int32} {v w i k z : Int32}
variable {md mc : Nat} {d : Int32}
theorem mr_Rap (hR : mr_R (fun _ => False) e off T P N Q al l tx dx st S O ar lx h mi mk mp ty dy qi qk qp ly) (hp : p < 16) (he : p ≠ e) (hl : mr_lv st p) (hm : ((k = 0 ∨ k = 4) ∧ z = -1) ∨ ∃ x, x < al ∧ z = nI x ∧ (k = 1 ∨ k = 2)) (h4 : ¬ k = 4) (ho : mr_oc qk (p * 9) (l p) < Q) : l p ≤ 8 ∧ mr_R (fun _ => False) e off T P N Q al (mr_ul l p (l p + 1)) tx dx st S O ar (upd lx p (nI (l p + 1))) h (upd mi (p * 9 + l p) i) (upd mk (p * 9 + l p) k) (upd mp (p * 9 + l p) z) ty dy (upd qi (p * 9 + l p) i) (upd qk (p * 9 + l p) k) (upd qp (p * 9 + l p) z) (upd ly p (nI (l p + 1))) := by
  obtain ⟨l8, r⟩ := mr_Rapp (i := i) (k := k) (z := z) hR hp he hl (by
    rcases hm with m | ⟨x, a, b, c⟩
    · exact Or.inl m
    · exact Or.inr ⟨x, a, b, c.elim Or.inl (fun g => Or.inr (Or.inl g))⟩) (Or.inr ⟨h4, ho⟩)
  exact ⟨l8, mr_RW r (fun x _ => ⟨fun w => w.1, fun w => absurd w (fun g => g)⟩)⟩
theorem mr_snd (hR : mr_R (fun _ => False) 16 0 T P N Q al l tx dx st S O ar lx h mi mk mp ty dy qi qk qp ly) (ht : t < T) (hm : mc < N) (hd : mr_nd d (ty (t * 9 + (mc + 1)))) (hdc : dy (t * 9 + (mc + 1)) = nI c) (hc : c < al) (hD : D < al) (hl : mr_lv st D) (ho : mr_oc qk (D * 9) (l D) < Q) (hcy : d = 1 → ∃ r, mr_rc st h r D ∧ ¬ mr_on h c r D) (ic : Int32) : ∃ (tx' dx' ty' dy' st' S' O' h' : Nat → Int32) (l' : Nat → Nat) (lx' mi' mk' mp' qi' qk' qp' ly' : Nat → Int32), mr_R (fun _ => False) 16 0 T P N Q al l' tx' dx' st' S' O' ar lx' h' mi' mk' mp' ty' dy' qi' qk' qp' ly' ∧ (∀ (dc : Int32) (wl rc : Nat → Int32) (post : Int32 → SX → Prop), post (ic + 1) (nI T, nI P, nI N, nI Q, dc, nI al, ic + 1, tx', dx', st', S', O', ar, lx', h', mi', mk', mp', wl, rc) → wX_send_58 post (nI t) (nI (mc + 1)) d (nI D) (nI T) (nI P) (nI N) (nI Q) dc (nI al) ic tx dx st S O ar lx h mi mk mp wl rc) ∧ (∀ (r0 r1 r2 r3 : Int32) (wl : Nat → Int32) (post : Int32 → SY → Prop), post (ic + 1) (nI T, nI P, nI N, nI Q, nI al, ic + 1, r0, r1, r2, r3, ty', dy', st', S', O', ar, qi', qk', qp', ly', wl) → wY_send_288 post d (nI c) (nI (t * 9 + (mc + 1))) (nI D) (nI T) (nI P) (nI N) (nI Q) (nI al) ic r0 r1 r2 r3 ty dy st S O ar qi qk qp ly wl) := by
  obtain ⟨b1, b2, b3, b4, b5, b6⟩ := mr_Rb hR
  have hI := hR.2.2.2.2.2.2.2.2
  have nn := hR.2.1 t mc (by omega) (by omega)
  have xd := nn.2.trans hdc
  obtain ⟨e1, e2, e3, e4⟩ := mr_lxy hR (p := D) (by omega)
  have hm8 : mc < 8 := by omega
  have ht4 : t < 4 := by omega
  have D16 : D < 16 := by omega
  have c16 : c < 16 := by omega
  have i32 : t * 8 + mc < 32 := by omega
  have i36 : t * 9 + (mc + 1) < 36 := by omega
  have DP : D < P := by omega
  have D6 : D ≠ 16 := by omega
  have X1 : (ty (t * 9 + (mc + 1)) = 1 ∨ ty (t * 9 + (mc + 1)) = 3) → st c = 1 := by
    intro a
    obtain ⟨p', hp', hd', hs⟩ := mr_Nr hI.1 i36 a
    rw [mr_inj (hd'.symm.trans hdc) (by omega) (by omega)] at hs
    exact hs
  have X2 : ¬ ty (t * 9 + (mc + 1)) = 0 → ¬ ty (t * 9 + (mc + 1)) = 8 → mr_lv st c := by
    intro a b
    obtain ⟨p', hp', hd', hs⟩ := mr_Ns hI.1 i36 a b
    rw [mr_inj (hd'.symm.trans hdc) (by omega) (by omega)] at hs
    exact hs
  rcases hd with ⟨dd, tt⟩ | ⟨dd, tt⟩ | ⟨dd, tt⟩
  · have hs := X1 tt
    rcases dd with rfl | rfl | rfl
    · obtain ⟨r, hrc, hon⟩ := hcy rfl
      have ne : D ≠ c := fun q => hon (by rw [q]; exact mr_onS r)
      rcases tt with t1 | t3
      · have R1 := mr_Rmv (v := 0) (w := -1) hR ht hm (Or.inl t1) hdc hc hs hrc hon (Or.inl ⟨t1, rfl, rfl⟩)
        obtain ⟨l8, R2⟩ := mr_Rapp (i := ic + 1) (k := 3) (z := nI c) R1 D16 D6 ((mr_lvn ne).mpr hl) (Or.inr ⟨c, hc, rfl, Or.inr (Or.inr ⟨rfl, pk_us, pk_us, rfl⟩)⟩) (Or.inr ⟨by decide, ho⟩)
        have R3 := mr_RW (W' := fun _ => False) R2 (fun x _ => ⟨fun q => q.2 ⟨rfl, by rw [q.1]⟩, fun q => absurd q (fun g => g)⟩)
        exact ⟨_, _, _, _, _, _, _, _, _, _, _, _, _, _, _, _, _, R3, fun dc wl rc post hq => xm_586 ht4 hm8 (Or.inl rfl) xd (fun q hq => xm_tk1 i32 c16 (Or.inl ⟨nn.1.trans t1, rfl, rfl⟩) hq) (xm_94 D16 l8 e1 (Or.inr (Or.inl ⟨rfl, rfl⟩)) hq), fun r0 r1 r2 r3 wl post hq => ym_2881 i36 c16 (Or.inl ⟨t1, rfl, rfl⟩) (ym_447 DP b3 l8 e2 hq)⟩
      · have R1 := mr_Rmv (v := 2) (w := nI c) hR ht hm (Or.inr t3) hdc hc hs hrc hon (Or.inr ⟨t3, rfl, rfl⟩)
        obtain ⟨l8, R2⟩ := mr_Rapp (i := ic + 1) (k := 3) (z := nI c) R1 D16 D6 ((mr_lvn ne).mpr hl) (Or.inr ⟨c, hc, rfl, Or.inr (Or.inr ⟨rfl, pk_us, pk_us, rfl⟩)⟩) (Or.inr ⟨by decide, ho⟩)
        have R3 := mr_RW (W' := fun _ => False) R2 (fun x _ => ⟨fun q => q.2 ⟨rfl, by rw [q.1]⟩, fun q => absurd q (fun g => g)⟩)
        exact ⟨_, _, _, _, _, _, _, _, _, _, _, _, _, _, _, _, _, R3, fun dc wl rc post hq => xm_586 ht4 hm8 (Or.inl rfl) xd (fun q hq => xm_tk1 i32 c16 (Or.inr ⟨nn.1.trans t3, rfl, xd.symm⟩) hq) (xm_94 D16 l8 e1 (Or.inr (Or.inl ⟨rfl, rfl⟩)) hq), fun r0 r1 r2 r3 wl post hq => ym_2881 i36 c16 (Or.inr ⟨t3, rfl, hdc.symm⟩) (ym_447 DP b3 l8 e2 hq)⟩
    · have R1 := mr_RS (v := S c + 1) hR (Or.inl hs : mr_lv st c)
      obtain ⟨l8, R2⟩ := mr_Rap (i := ic + 1) (k := 1) (z := nI c) R1 D16 D6 hl (Or.inr ⟨c, hc, rfl, Or.inl rfl⟩) (by decide) ho
      exact ⟨_, _, _, _, _, _, _, _, _, _, _, _, _, _, _, _, _, R2, fun dc wl rc post hq => xm_586 ht4 hm8 (Or.inr (Or.inr (Or.inr (Or.inl rfl)))) xd (fun q hq => xm_tk3 c16 (Or.inr rfl) hq) (xm_94 D16 l8 e1 (Or.inr (Or.inr (Or.inl ⟨Or.inr (Or.inr rfl), rfl⟩))) hq), fun r0 r1 r2 r3 wl post hq => ym_2883 c16 (Or.inr rfl) (ym_447 DP b3 l8 e2 hq)⟩
    · have R1 := mr_RO (v := O c + 1) hR (Or.inl hs : mr_lv st c)
      obtain ⟨l8, R2⟩ := mr_Rap (i := ic + 1) (k := 2) (z := nI c) R1 D16 D6 hl (Or.inr ⟨c, hc, rfl, Or.inr rfl⟩) (by decide) ho
      exact ⟨_, _, _, _, _, _, _, _, _, _, _, _, _, _, _, _, _, R2, fun dc wl rc post hq => xm_586 ht4 hm8 (Or.inr (Or.inr (Or.inr (Or.inr (Or.inr rfl))))) xd (fun q hq => xm_tk6 c16 hq) (xm_94 D16 l8 e1 (Or.inr (Or.inr (Or.inr ⟨Or.inr rfl, rfl⟩))) hq), fun r0 r1 r2 r3 wl post hq => ym_2886 c16 (ym_447 DP b3 l8 e2 hq)⟩
  · have lc := X2 (by rcases tt with a | a <;> rw [a] <;> decide) (by rcases tt with a | a <;> rw [a] <;> decide)
    rcases dd with rfl | rfl
    · rcases tt with t2 | t3
      · have R1 := mr_Rf hR (t := t) hm8
        obtain ⟨l8, R2⟩ := mr_Rap (i := ic + 1) (k := 1) (z := nI c) R1 D16 D6 hl (Or.inr ⟨c, hc, rfl, Or.inl rfl⟩) (by decide) ho
        exact ⟨_, _, _, _, _, _, _, _, _, _, _, _, _, _, _, _, _, R2, fun dc wl rc post hq => xm_586 ht4 hm8 (Or.inr (Or.inl rfl)) xd (fun q hq => xm_tk2 i32 (Or.inl ⟨nn.1.trans t2, rfl, rfl⟩) hq) (xm_94 D16 l8 e1 (Or.inr (Or.inr (Or.inl ⟨Or.inl rfl, rfl⟩))) hq), fun r0 r1 r2 r3 wl post hq => ym_2882 i36 (Or.inl ⟨t2, rfl, rfl⟩) (ym_447 DP b3 l8 e2 hq)⟩
      · have R1 := mr_R31 hR ht hm t3
        obtain ⟨l8, R2⟩ := mr_Rap (i := ic + 1) (k := 1) (z := nI c) R1 D16 D6 hl (Or.inr ⟨c, hc, rfl, Or.inl rfl⟩) (by decide) ho
        refine ⟨_, dx, _, dy, _, _, _, _, _, _, _, _, _, _, _, _, _, R2, fun dc wl rc post hq => xm_586 ht4 hm8 (Or.inr (Or.inl rfl)) xd (fun q hq => xm_tk2 i32 (Or.inr ⟨nn.1.trans t3, rfl, rfl⟩) ?_) (xm_94 D16 l8 e1 (Or.inr (Or.inr (Or.inl ⟨Or.inl rfl, rfl⟩))) hq), fun r0 r1 r2 r3 wl post hq => ym_2882 i36 (Or.inr ⟨t3, rfl, rfl⟩) ?_⟩
        · rw [mr_ui rfl]
          exact hq
        · rw [mr_ui rfl]
          exact ym_447 DP b3 l8 e2 hq
    · have R1 := mr_RS (v := S c + 1) hR lc
      obtain ⟨l8, R2⟩ := mr_Rap (i := ic + 1) (k := 1) (z := nI c) R1 D16 D6 hl (Or.inr ⟨c, hc, rfl, Or.inl rfl⟩) (by decide) ho
      exact ⟨_, _, _, _, _, _, _, _, _, _, _, _, _, _, _, _, _, R2, fun dc wl rc post hq => xm_586 ht4 hm8 (Or.inr (Or.inr (Or.inl rfl))) xd (fun q hq => xm_tk3 c16 (Or.inl rfl) hq) (xm_94 D16 l8 e1 (Or.inr (Or.inr (Or.inl ⟨Or.inr (Or.inl rfl), rfl⟩))) hq), fun r0 r1 r2 r3 wl post hq => ym_2883 c16 (Or.inl rfl) (ym_447 DP b3 l8 e2 hq)⟩
  · subst dd
    have R1 := mr_Rf hR (t := t) hm8
    obtain ⟨l8, R2⟩ := mr_Rap (i := ic + 1) (k := 2) (z := nI c) R1 D16 D6 hl (Or.inr ⟨c, hc, rfl, Or.inr rfl⟩) (by decide) ho
    exact ⟨_, _, _, _, _, _, _, _, _, _, _, _, _, _, _, _, _, R2, fun dc wl rc post hq => xm_586 ht4 hm8 (Or.inr (Or.inr (Or.inr (Or.inr (Or.inl rfl))))) xd (fun q hq => xm_tk5 i32 hq) (xm_94 D16 l8 e1 (Or.inr (Or.inr (Or.inr ⟨Or.inl rfl, rfl⟩))) hq), fun r0 r1 r2 r3 wl post hq => ym_2885 i36 (ym_447 DP b3 l8 e2 hq)⟩
end
