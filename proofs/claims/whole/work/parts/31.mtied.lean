section Tied
variable {N : Nat} {M0 : Mm} {a : Int}
/-- the tables that findTied reads -/
def TB (M0 M : Mm) (x : Int) : Prop := Ag9 M0 M ∧ (∀ k f, M0 24 10 + M0 24 12 - 1 ≤ k → k ≤ M0 24 11 - 1 → 1 ≤ f → f ≤ 5 → M 35 (6 * k + f) = rsX M0 x k f) ∧ (∀ k f, 0 ≤ k → k ≤ M0 24 12 - 1 → 1 ≤ f → f ≤ 5 → M 36 (6 * k + f) = jtX M0 x k f) ∧ ∀ k f, M0 24 11 + M0 24 12 - 1 ≤ k → k ≤ M0 24 7 - 1 → 1 ≤ f → f ≤ 5 → M 35 (6 * k + f) = rsT M0 k f
theorem TB.w {M : Mm} {x j v : Int} (h : TB M0 M x) : TB M0 (mset M 39 j v) x := by
  obtain ⟨h1, h2, h3, h4⟩ := h
  refine ⟨h1.w j v, fun k f q1 q2 q3 q4 => ?_, fun k f q1 q2 q3 q4 => ?_, fun k f q1 q2 q3 q4 => ?_⟩
  · rw [mset_ne (by omega)]; exact h2 k f q1 q2 q3 q4
  · rw [mset_ne (by omega)]; exact h3 k f q1 q2 q3 q4
  · rw [mset_ne (by omega)]; exact h4 k f q1 q2 q3 q4
/-- fingers at places lo to hi are new, all else of M stands; those up to hi are fingers -/
def Nw (a : Int) (Ma M : Mm) (lo hi : Int) : Prop := (∀ c j, ¬ (c = 39 ∧ a + lo ≤ j ∧ j ≤ a + hi) → M c j = Ma c j) ∧ ∀ k, lo ≤ k → k ≤ hi → 1 ≤ M 39 (a + k) ∧ M 39 (a + k) ≤ 5
theorem Nw.st {Ma M : Mm} {lo hi g : Int} (h : Nw a Ma M lo hi) (hg0 : 1 ≤ g) (hg1 : g ≤ 5) (hl : lo ≤ hi + 1) : Nw a Ma (mset M 39 (a + (hi + 1)) g) lo (hi + 1) := by
  refine ⟨fun c j q => ?_, fun k q1 q2 => ?_⟩
  · rw [mset_ne (by omega)]; exact h.1 c j (by omega)
  · by_cases hk : k = hi + 1
    · subst hk; rw [mset_eq]; omega
    · rw [mset_ne (by omega)]; exact h.2 k q1 (by omega)
theorem z_td_l1 {x : Int} {Ma : Mm} {Φ : Option Vl → Ly → Mm → Prop} (hT : TOk M0) (hL : LOk M0) (ha : a = 0 ∨ a = 30) (hx0 : 1 ≤ x) (hx1 : x ≤ 5) (hB : TB M0 Ma x) (hx : Ma 39 (a + M0 24 10) = x)
    (kk : ∀ M, TB M0 M x → Nw a Ma M (M0 24 10 + 1) (M0 24 10 + M0 24 12 - 1) → 1 ≤ M 39 (a + (M0 24 10 + M0 24 12 - 1)) → M 39 (a + (M0 24 10 + M0 24 12 - 1)) ≤ 5 → jtX M0 x (M0 24 12 - 1) (M 39 (a + (M0 24 10 + M0 24 12 - 1))) < 1000000 → (∀ k, 0 ≤ k → k < M0 24 12 - 1 → Fst (fun g => jsM M0 k (M 39 (a + (M0 24 10 + k))) g + jtX M0 x (k + 1) g) (jtX M0 x k (M 39 (a + (M0 24 10 + k)))) (M 39 (a + (M0 24 10 + k + 1)))) → AJ 7 0 0 mM_findTied Φ 0 0 68 [some (.inr 24), some (.inl a), some (.inl x)] [] (S0 N) M) :
    ∀ (n : Nat) (k : Int) (M : Mm), k + n = M0 24 12 - 1 → 0 ≤ k → TB M0 M x → Nw a Ma M (M0 24 10 + 1) (M0 24 10 + k) → 1 ≤ M 39 (a + (M0 24 10 + k)) → M 39 (a + (M0 24 10 + k)) ≤ 5 → jtX M0 x k (M 39 (a + (M0 24 10 + k))) < 1000000 → (∀ i, 0 ≤ i → i < k → Fst (fun g => jsM M0 i (M 39 (a + (M0 24 10 + i))) g + jtX M0 x (i + 1) g) (jtX M0 x i (M 39 (a + (M0 24 10 + i)))) (M 39 (a + (M0 24 10 + i + 1)))) → AJ 7 0 0 mM_findTied Φ 0 0 19 [some (.inr 24), some (.inl a), some (.inl x), some (.inl k)] [] (S0 N) M := by
  intro n
  have l4 := hL.2.2.2.1
  obtain ⟨t1, t2, t3, t4⟩ := id hT
  induction n with
  | zero =>
    intro k M hk h0 hTB hN hf0 hf1 hlt hc
    have : k = M0 24 12 - 1 := by omega
    subst this
    have e12 := hTB.1 24 12 (by omega) (by omega)
    refine aM_findTied [68] 30 (fun hM => ?_)
    refine ⟨by omega, ite_i (fun q => by omega) (fun q => ?_)⟩
    rw [show M0 24 10 + (M0 24 12 - 1) = M0 24 10 + M0 24 12 - 1 by omega] at hN hlt hf0 hf1
    exact AJ.wk (kk M hTB hN hf0 hf1 hlt hc) ⟨rfl, rfl, rfl, trivial⟩
  | succ n ih =>
    intro k M hk h0 hTB hN hf0 hf1 hlt hc
    obtain ⟨b1, b2, b3, b4⟩ := id hTB
    have e12 := b1 24 12 (by omega) (by omega)
    have e10 := b1 24 10 (by omega) (by omega)
    have hm : jtX M0 x k (M 39 (a + (M0 24 10 + k))) = m5 (fun g => jsM M0 k (M 39 (a + (M0 24 10 + k))) g + jtX M0 x (k + 1) g) := by unfold jtX; rw [bz_s (by omega)]
    obtain ⟨gs, hF⟩ := m5_at (φ := fun g => jsM M0 k (M 39 (a + (M0 24 10 + k))) g + jtX M0 x (k + 1) g) (by rw [← hm]; exact hlt)
    rw [← hm] at hF
    have heq : jsM M0 k (M 39 (a + (M0 24 10 + k))) gs + jtX M0 x (k + 1) gs = jtX M0 x k (M 39 (a + (M0 24 10 + k))) := hF.2.2.1
    have hjr := jsM_rng hL.1 (k := k) hf0 hf1 hF.1 hF.2.1
    have hR : Ret 5 0 0 mM_jointBehind [.inr 24, .inl k, .inl (M 39 (a + (M0 24 10 + k)))] (S0 N) M (Pu (S0 N) M gs) := by
      refine z_jointBehind b1.p (P9_T hT) (P9_L hL) h0 (by rw [P9_o 24 (by omega)]; omega) hf0 hf1 (fun g q1 q2 => ?_) ?_
      · rw [b3 (k + 1) g (by omega) (by omega) q1 q2]; exact jtX_rng hL.1 hT hx0 hx1 (by omega) q1 q2
      · rw [P9_js, b3 k _ h0 (by omega) hf0 hf1]
        exact hF.congr (fun g q1 q2 => by rw [b3 (k + 1) g (by omega) (by omega) q1 q2])
    have hg0 := hF.1
    have hg1 := hF.2.1
    have e1 : ∀ i, i ≤ k → (mset M 39 (a + (M0 24 10 + k + 1)) gs) 39 (a + (M0 24 10 + i)) = M 39 (a + (M0 24 10 + i)) := fun i q => mset_ne (by omega)
    have e2 : (mset M 39 (a + (M0 24 10 + k + 1)) gs) 39 (a + (M0 24 10 + (k + 1))) = gs := by rw [show M0 24 10 + (k + 1) = M0 24 10 + k + 1 by omega, mset_eq]
    refine aM_findTied [19] 60 (fun hM => ?_)
    refine ⟨by omega, ite_i (fun q => ?_) (fun q => by omega)⟩
    conv => whnf
    rw [e10, show a + M0 24 10 + k = a + (M0 24 10 + k) by omega]
    refine ⟨by omega, CL.pu hR (Nat.le_of_ble_eq_true rfl) ?_⟩
    rw [show a + (M0 24 10 + k) + 1 = a + (M0 24 10 + k + 1) by omega]
    refine ⟨⟨by decide, by omega, by omega, by omega, by omega⟩, ?_⟩
    refine ih (k + 1) _ (by omega) (by omega) hTB.w ?_ (by rw [e2]; omega) (by rw [e2]; omega) (by rw [e2]; omega) ?_
    · have := hN.st hg0 hg1 (by omega)
      rw [show M0 24 10 + (k + 1) = M0 24 10 + k + 1 by omega]; exact this
    · intro i q1 q2
      by_cases hik : i = k
      · subst hik; rw [e1 i (by omega), mset_eq]; exact hF
      · rw [e1 i (by omega), show M0 24 10 + i + 1 = M0 24 10 + (i + 1) by omega, e1 (i + 1) (by omega)]
        have := hc i q1 (by omega)
        rw [show M0 24 10 + i + 1 = M0 24 10 + (i + 1) by omega] at this
        exact this
theorem z_td_in {x k f gs : Int} {M : Mm} {Φ : Option Vl → Ly → Mm → Prop} (hT : TOk M0) (hL : LOk M0) (ha : a = 0 ∨ a = 30) (hx0 : 1 ≤ x) (hx1 : x ≤ 5) (hB : TB M0 M x) (h0 : M0 24 10 + M0 24 12 - 1 ≤ k) (h1 : k < M0 24 11 - 1) (hf : M 39 (a + k) = f) (hf0 : 1 ≤ f) (hf1 : f ≤ 5) (hF : Fst (fun g => goM M0 k f g + rsX M0 x (k + 1) g) (rsX M0 x k f) gs)
    (kk : AJ 7 0 0 mM_findTied Φ 0 0 80 [some (.inr 24), some (.inl a), some (.inl x), some (.inl (k + 1))] [] (S0 N) (mset M 39 (a + k + 1) gs)) :
    ∀ (n : Nat) (g : Int), g + n = gs → 1 ≤ g → AJ 7 0 0 mM_findTied Φ 0 0 93 [some (.inr 24), some (.inl a), some (.inl x), some (.inl k), some (.inl g)] [] (S0 N) M := by
  intro n
  have l4 := hL.2.2.2.1
  obtain ⟨t1, t2, t3, t4⟩ := id hT
  obtain ⟨b1, b2, b3, b4⟩ := id hB
  obtain ⟨g0, g1, g2, g3⟩ := hF
  subst hf
  have e24 : P9 M0 M 24 = M0 24 := P9_o 24 (by omega)
  have ek := b2 k (M 39 (a + k)) h0 (by omega) hf0 hf1
  induction n with
  | zero =>
    intro g hg hg0
    have : g = gs := by omega
    subst this
    have hgo := goM_rng hL.1 (k := k) hf0 hf1 g0 g1
    have hr := rsX_rng hL.1 (k := k + 1) hx0 hx1 (by omega) g0 g1
    have ek1 := b2 (k + 1) g (by omega) (by omega) g0 g1
    refine aM_findTied [80] 60 (fun hM => ?_)
    refine ⟨by omega, CL.pu (z_goingOn b1.p (P9_L hL) (by omega) (by rw [e24]; omega) hf0 hf1 g0 g1) (Nat.le_of_ble_eq_true rfl) ?_⟩
    rw [P9_go]
    refine ⟨by omega, by omega, by omega, ⟨by rw [ek1]; omega, hM _ _⟩, ite_i (fun q => ?_) (fun q => absurd (by rw [ek1, ek]; exact g2) q)⟩
    refine ⟨⟨by decide, by omega, by omega, by omega, by omega⟩, AJ.wk kk ⟨rfl, rfl, rfl, rfl, trivial⟩⟩
  | succ n ih =>
    intro g hg hg0
    have hgo := goM_rng hL.1 (k := k) hf0 hf1 hg0 (show g ≤ 5 by omega)
    have hr := rsX_rng hL.1 (k := k + 1) hx0 hx1 (by omega) hg0 (show g ≤ 5 by omega)
    have ek1 := b2 (k + 1) g (by omega) (by omega) hg0 (by omega)
    refine aM_findTied [93] 60 (fun hM => ?_)
    refine ⟨by omega, CL.pu (z_goingOn b1.p (P9_L hL) (by omega) (by rw [e24]; omega) hf0 hf1 hg0 (by omega)) (Nat.le_of_ble_eq_true rfl) ?_⟩
    rw [P9_go]
    refine ⟨by omega, by omega, by omega, ⟨by rw [ek1]; omega, hM _ _⟩, ite_i (fun q => ?_) (fun q => ?_)⟩
    · rw [ek1, ek] at q; exact absurd q (g3 g hg0 (by omega))
    · exact ih (g + 1) (by omega) (by omega)
theorem z_td_l2 {x : Int} {Ma : Mm} {Φ : Option Vl → Ly → Mm → Prop} (hT : TOk M0) (hL : LOk M0) (ha : a = 0 ∨ a = 30) (hx0 : 1 ≤ x) (hx1 : x ≤ 5)
    (kk : ∀ M, TB M0 M x → Nw a Ma M (M0 24 10 + M0 24 12) (M0 24 11 - 1) → (∀ k, M0 24 10 + M0 24 12 - 1 ≤ k → k < M0 24 11 - 1 → Fst (fun g => goM M0 k (M 39 (a + k)) g + rsX M0 x (k + 1) g) (rsX M0 x k (M 39 (a + k))) (M 39 (a + (k + 1)))) → AJ 7 0 0 mM_findTied Φ 0 0 168 [some (.inr 24), some (.inl a), some (.inl x)] [] (S0 N) M) :
    ∀ (n : Nat) (k : Int) (M : Mm), k + n = M0 24 11 - 1 → M0 24 10 + M0 24 12 - 1 ≤ k → TB M0 M x → Nw a Ma M (M0 24 10 + M0 24 12) k → 1 ≤ M 39 (a + k) → M 39 (a + k) ≤ 5 → rsX M0 x k (M 39 (a + k)) < 1000000 → (∀ i, M0 24 10 + M0 24 12 - 1 ≤ i → i < k → Fst (fun g => goM M0 i (M 39 (a + i)) g + rsX M0 x (i + 1) g) (rsX M0 x i (M 39 (a + i))) (M 39 (a + (i + 1)))) → ∀ L4 : Option Vl, AJ 7 0 0 mM_findTied Φ 0 0 80 [some (.inr 24), some (.inl a), some (.inl x), some (.inl k), L4] [] (S0 N) M := by
  intro n
  have l4 := hL.2.2.2.1
  obtain ⟨t1, t2, t3, t4⟩ := id hT
  induction n with
  | zero =>
    intro k M hk h0 hTB hN hf0 hf1 hlt hc L4
    have : k = M0 24 11 - 1 := by omega
    subst this
    have e11 := hTB.1 24 11 (by omega) (by omega)
    refine aM_findTied [168] 30 (fun hM => ?_)
    refine ⟨by omega, ite_i (fun q => by omega) (fun q => ?_)⟩
    exact AJ.wk (kk M hTB hN hc) ⟨rfl, rfl, rfl, trivial⟩
  | succ n ih =>
    intro k M hk h0 hTB hN hf0 hf1 hlt hc L4
    have e11 := hTB.1 24 11 (by omega) (by omega)
    have hm : rsX M0 x k (M 39 (a + k)) = m5 (fun g => goM M0 k (M 39 (a + k)) g + rsX M0 x (k + 1) g) := by unfold rsX; rw [bz_s (by omega)]
    obtain ⟨gs, hF⟩ := m5_at (φ := fun g => goM M0 k (M 39 (a + k)) g + rsX M0 x (k + 1) g) (by rw [← hm]; exact hlt)
    rw [← hm] at hF
    have heq : goM M0 k (M 39 (a + k)) gs + rsX M0 x (k + 1) gs = rsX M0 x k (M 39 (a + k)) := hF.2.2.1
    have hjr := goM_rng hL.1 (k := k) hf0 hf1 hF.1 hF.2.1
    have hg0 := hF.1
    have hg1 := hF.2.1
    have e1 : ∀ i, i ≤ k → (mset M 39 (a + (k + 1)) gs) 39 (a + i) = M 39 (a + i) := fun i q => mset_ne (by omega)
    have nx := ih (k + 1) (mset M 39 (a + (k + 1)) gs) (by omega) (by omega) hTB.w (hN.st hg0 hg1 (by omega)) (by rw [mset_eq]; omega) (by rw [mset_eq]; omega) (by rw [mset_eq]; omega) (fun i q1 q2 => by
      by_cases hik : i = k
      · subst hik; rw [e1 i (by omega), mset_eq]; exact hF
      · rw [e1 i (by omega), e1 (i + 1) (by omega)]; exact hc i q1 (by omega)) none
    have inn := z_td_in (N := N) hT hL ha hx0 hx1 hTB h0 (by omega) rfl hf0 hf1 hF (by
      rw [show a + k + 1 = a + (k + 1) by omega]
      exact AJ.wk nx ⟨rfl, rfl, rfl, rfl, trivial⟩) (gs - 1).toNat 1 (by omega) (by omega)
    refine aM_findTied [93] 30 (fun hM => ?_)
    refine ⟨by omega, ite_i (fun q => ?_) (fun q => by omega)⟩
    exact AJ.wk inn ⟨rfl, rfl, rfl, rfl, rfl, trivial⟩
theorem z_td_l3 {x : Int} {Ma : Mm} {Φ : Option Vl → Ly → Mm → Prop} (hT : TOk M0) (hL : LOk M0) (ha : a = 0 ∨ a = 30) (hp : ∀ k, 0 ≤ k → k < M0 24 12 → 1 ≤ Ma 39 (a + (M0 24 10 + k)) ∧ Ma 39 (a + (M0 24 10 + k)) ≤ 5)
    (kk : ∀ M, TB M0 M x → Nw a Ma M (M0 24 11) (M0 24 11 + M0 24 12 - 1) → (∀ k, 0 ≤ k → k < M0 24 12 → M 39 (a + (M0 24 11 + k)) = M 39 (a + (M0 24 10 + k))) → AJ 7 0 0 mM_findTied Φ 0 0 210 [some (.inr 24), some (.inl a), some (.inl x)] [] (S0 N) M) :
    ∀ (n : Nat) (k : Int) (M : Mm), k + n = M0 24 12 → 0 ≤ k → TB M0 M x → Nw a Ma M (M0 24 11) (M0 24 11 + k - 1) → (∀ i, 0 ≤ i → i < k → M 39 (a + (M0 24 11 + i)) = M 39 (a + (M0 24 10 + i))) → AJ 7 0 0 mM_findTied Φ 0 0 170 [some (.inr 24), some (.inl a), some (.inl x), some (.inl k)] [] (S0 N) M := by
  intro n
  have l4 := hL.2.2.2.1
  obtain ⟨t1, t2, t3, t4⟩ := id hT
  induction n with
  | zero =>
    intro k M hk h0 hTB hN hc
    have : k = M0 24 12 := by omega
    subst this
    have e12 := hTB.1 24 12 (by omega) (by omega)
    refine aM_findTied [210] 30 (fun hM => ?_)
    refine ⟨by omega, ite_i (fun q => by omega) (fun q => ?_)⟩
    exact AJ.wk (kk M hTB hN hc) ⟨rfl, rfl, rfl, trivial⟩
  | succ n ih =>
    intro k M hk h0 hTB hN hc
    have e12 := hTB.1 24 12 (by omega) (by omega)
    have e11 := hTB.1 24 11 (by omega) (by omega)
    have e10 := hTB.1 24 10 (by omega) (by omega)
    have hf := hp k h0 (by omega)
    have hfe : M 39 (a + (M0 24 10 + k)) = Ma 39 (a + (M0 24 10 + k)) := hN.1 39 _ (by omega)
    rw [← hfe] at hf
    refine aM_findTied [170] 60 (fun hM => ?_)
    refine ⟨by omega, ite_i (fun q => ?_) (fun q => by omega)⟩
    conv => whnf
    rw [e10, e11, show a + M0 24 10 + k = a + (M0 24 10 + k) by omega]
    refine ⟨by omega, ?_⟩
    rw [show a + M0 24 11 + k = a + (M0 24 11 + k) by omega]
    refine ⟨⟨by decide, by omega, by omega, by omega, hM _ _⟩, ?_⟩
    refine ih (k + 1) _ (by omega) (by omega) hTB.w ?_ ?_
    · have := hN.st hf.1 hf.2 (by omega)
      rw [show M0 24 11 + k - 1 + 1 = M0 24 11 + k by omega] at this
      rw [show M0 24 11 + (k + 1) - 1 = M0 24 11 + k by omega]; exact this
    · intro i q1 q2
      rw [mset_ne (i := a + (M0 24 11 + k)) (j := a + (M0 24 10 + i)) (by omega)]
      by_cases hik : i = k
      · subst hik; rw [mset_eq]
      · rw [mset_ne (by omega)]; exact hc i q1 (by omega)
theorem z_td_l4 {x : Int} {Ma : Mm} {Φ : Option Vl → Ly → Mm → Prop} (hT : TOk M0) (hL : LOk M0) (ha : a = 0 ∨ a = 30)
    (kk : ∀ M, Nw a Ma M (M0 24 11 + M0 24 12) (M0 24 7 - 1) → TB M0 M x → (∀ k, M0 24 11 + M0 24 12 - 1 ≤ k → k < M0 24 7 - 1 → Fst (fun g => goM M0 k (M 39 (a + k)) g + rsT M0 (k + 1) g) (rsT M0 k (M 39 (a + k))) (M 39 (a + (k + 1)))) → Φ none (S0 N) M) :
    ∀ (n : Nat) (k : Int) (M : Mm), k + n = M0 24 7 - 1 → M0 24 11 + M0 24 12 - 1 ≤ k → TB M0 M x → Nw a Ma M (M0 24 11 + M0 24 12) k → 1 ≤ M 39 (a + k) → M 39 (a + k) ≤ 5 → rsT M0 k (M 39 (a + k)) < 1000000 → (∀ i, M0 24 11 + M0 24 12 - 1 ≤ i → i < k → Fst (fun g => goM M0 i (M 39 (a + i)) g + rsT M0 (i + 1) g) (rsT M0 i (M 39 (a + i))) (M 39 (a + (i + 1)))) → AJ 7 0 0 mM_findTied Φ 0 0 222 [some (.inr 24), some (.inl a), some (.inl x), some (.inl k)] [] (S0 N) M := by
  intro n
  have l4 := hL.2.2.2.1
  obtain ⟨t1, t2, t3, t4⟩ := id hT
  induction n with
  | zero =>
    intro k M hk h0 hTB hN hf0 hf1 hlt hc
    have : k = M0 24 7 - 1 := by omega
    subst this
    have e7 := hTB.1 24 7 (by omega) (by omega)
    refine aM_findTied [] 30 (fun hM => ?_)
    refine ⟨by omega, ite_i (fun q => by omega) (fun q => ?_)⟩
    exact kk M hN hTB hc
  | succ n ih =>
    intro k M hk h0 hTB hN hf0 hf1 hlt hc
    obtain ⟨b1, b2, b3, b4⟩ := id hTB
    have e7 := b1 24 7 (by omega) (by omega)
    have e10 := b1 24 10 (by omega) (by omega)
    have haf : ∀ i g, M0 24 11 + M0 24 12 - 1 ≤ i → i ≤ M0 24 7 - 1 → 1 ≤ g → g ≤ 5 → aft M i g = rsT M0 i g := fun i g q1 q2 q3 q4 => by
      unfold aft; rw [if_neg (by omega)]; exact b4 i g q1 q2 q3 q4
    obtain ⟨gs, hF, hl2, hR⟩ := z_step9 (N := N) (a := a) (k := k) b1 hL (by omega) (by omega) hf0 hf1 (V := rsT M0) (fun g q1 q2 => haf (k + 1) g (by omega) (by omega) q1 q2) (fun g q1 q2 => rsT_rng hL.1 (by omega) q1 q2) (haf k _ h0 (by omega) hf0 hf1) (by unfold rsT; rw [bz_s (by omega)]) hlt
    have hg0 := hF.1
    have hg1 := hF.2.1
    have e1 : ∀ i, i ≤ k → (mset M 39 (a + (k + 1)) gs) 39 (a + i) = M 39 (a + i) := fun i q => mset_ne (by omega)
    refine aM_findTied [222] 60 (fun hM => ?_)
    refine ⟨by omega, ite_i (fun q => ?_) (fun q => by omega)⟩
    refine ⟨by omega, CL.pu hR (Nat.le_of_ble_eq_true rfl) ?_⟩
    rw [show a + k + 1 = a + (k + 1) by omega]
    refine ⟨⟨by decide, by omega, by omega, by omega, by omega⟩, ?_⟩
    refine ih (k + 1) _ (by omega) (by omega) hTB.w (hN.st hg0 hg1 (by omega)) (by rw [mset_eq]; omega) (by rw [mset_eq]; omega) (by rw [mset_eq]; exact hl2) (fun i q1 q2 => ?_)
    by_cases hik : i = k
    · subst hik; rw [e1 i (by omega), mset_eq]; exact hF
    · rw [e1 i (by omega), e1 (i + 1) (by omega)]; exact hc i q1 (by omega)
end Tied
