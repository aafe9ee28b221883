/-! ===== the class: rows are loaded ===== -/
/-- what note costs are laid: FAR where a finger may not be -/
def lnV (M : Mm) (key only f : Int) : Int := if only = -9 ∨ only = f then ncv (M 30) key f else 100000
/-- what step costs are laid -/
def lsV (M : Mm) (hand a b f g : Int) : Int := if stv (M 30) (M 27) (M 28) (M 29) hand a f b g = 1000000 then 100000 else stv (M 30) (M 27) (M 28) (M 29) hand a f b g
section Rl
variable {N : Nat} {M : Mm}
theorem RuI.fr {A : Mm} (hI : RuI M) (hf : ∀ c : Nat, c = 3 ∨ c = 4 ∨ c = 27 ∨ c = 28 ∨ c = 29 ∨ c = 30 → A c = M c) : RuI A := by
  unfold RuI at *
  rw [hf 3 (by omega), hf 4 (by omega), hf 27 (by omega), hf 28 (by omega), hf 29 (by omega), hf 30 (by omega)]
  exact hI
theorem t_loadNote {m key only : Int} (hI : RuI M) (h0 : 0 ≤ m) (h1 : m < 30) (hk0 : 0 ≤ key) (hk1 : key < 60) (ho : only = -9 ∨ isF only) : Ret 2 0 0 mR_loadNote [.inr 13, .inl m, .inl key, .inl only] (S0 N) M (Vo (S0 N) (wr M 14 (5 * m - 1) (lnV M key only) 5)) := by
  have loop : ∀ (n i : Nat) (L5 : Option Vl), i + n = 5 → AJ 2 0 0 mR_loadNote (Vo (S0 N) (wr M 14 (5 * m - 1) (lnV M key only) 5)) 0 0 3 [some (.inr 13), some (.inl m), some (.inl key), some (.inl only), some (.inl i), L5] [] (S0 N) (wr M 14 (5 * m - 1) (lnV M key only) i) := by
    intro n
    induction n with
    | zero =>
      intro i L5 hi
      have : i = 5 := by omega
      subst this
      refine aR_loadNote [] 30 (fun hM => ?_)
      exact ⟨by decide, vo_eq rfl⟩
    | succ n ih =>
      intro i L5 hi
      have e30 : (wr M 14 (5 * m - 1) (lnV M key only) i) 30 = M 30 := by funext j; exact wr_ne (by omega)
      have hI1 : RuI (wr M 14 (5 * m - 1) (lnV M key only) i) := hI.fr (fun c hc => by funext j; exact wr_ne (by omega))
      have nr := ncv_rng hI key ((i : Int) + 1)
      have h2 := fun L5 => ih (i + 1) L5 (by omega)
      rw [show ((i + 1 : Nat) : Int) = (i : Int) + 1 by omega] at h2
      have st : ∀ v, v = lnV M key only ((i : Int) + 1) → mset (wr M 14 (5 * m - 1) (lnV M key only) i) 14 (m * 5 + i) v = wr M 14 (5 * m - 1) (lnV M key only) ((i : Int) + 1) := fun v hv => by
        rw [show m * 5 + (i : Int) = (5 * m - 1) + ((i : Int) + 1) by omega]; exact wr_step (by omega) hv
      have yes : (only = -9 ∨ only = (i : Int) + 1) → ∀ L5', L5' = some (Sum.inl (1 : Int)) → AJ 2 0 0 mR_loadNote (Vo (S0 N) (wr M 14 (5 * m - 1) (lnV M key only) 5)) 0 0 30 [some (.inr 13), some (.inl m), some (.inl key), some (.inl only), some (.inl i), L5'] [] (S0 N) (wr M 14 (5 * m - 1) (lnV M key only) i) := by
        intro q L5' e5
        subst e5
        have ev : ncv (M 30) key ((i : Int) + 1) = lnV M key only ((i : Int) + 1) := by unfold lnV; rw [if_pos q]
        have C := t_noteCost (N := N) (k := key) (f := (i : Int) + 1) hI1 hk0 (by omega) (by omega)
        rw [e30] at C
        refine aR_loadNote [3] 40 (fun hM => ?_)
        refine ⟨R32_1, CL.pu C (Nat.le_of_ble_eq_true rfl) ?_⟩
        refine CL.vo (t_store (n := 150) rfl (by decide) (by omega) (by omega) (Nat.le_of_ble_eq_true rfl) (by omega)) (Nat.le_of_ble_eq_true rfl) (fun hM2 => ?_)
        rw [st _ ev]
        exact h2 _
      have no : ¬ (only = -9 ∨ only = (i : Int) + 1) → AJ 2 0 0 mR_loadNote (Vo (S0 N) (wr M 14 (5 * m - 1) (lnV M key only) 5)) 0 0 30 [some (.inr 13), some (.inl m), some (.inl key), some (.inl only), some (.inl i), some (.inl 0)] [] (S0 N) (wr M 14 (5 * m - 1) (lnV M key only) i) := by
        intro q
        have ev : 100000 = lnV M key only ((i : Int) + 1) := by unfold lnV; rw [if_neg q]
        refine aR_loadNote [3] 40 (fun hM => ?_)
        refine ⟨R32_0, ?_⟩
        refine CL.vo (t_store (n := 150) rfl (by decide) (by omega) (by omega) (Nat.le_of_ble_eq_true rfl) (by decide)) (Nat.le_of_ble_eq_true rfl) (fun hM2 => ?_)
        rw [st _ ev]
        exact h2 _
      refine aR_loadNote [30] 40 (fun hM => ?_)
      refine ⟨by omega, ite_i (fun _ => ?_) (fun q => by omega)⟩
      refine ⟨by omega, ite_i (fun q => ?_) (fun q => ?_)⟩
      · exact yes (Or.inl q) _ rfl
      · refine ⟨by omega, ite_i (fun q2 => ?_) (fun q2 => ?_)⟩
        · exact yes (Or.inr q2) _ rfl
        · exact no (by omega)
  refine eR_loadNote [3] 30 (Nat.le_of_ble_eq_true rfl) (fun hM => ?_)
  have L := loop 5 0 none (by omega)
  rw [show ((0 : Nat) : Int) = 0 from rfl, wr_0] at L
  exact AJ.wk L ⟨rfl, rfl, rfl, rfl, rfl, trivial⟩
theorem lsV_rng (hI : RuI M) {hand a b f g : Int} (hf0 : 1 ≤ f) (hf1 : f ≤ 5) (hg0 : 1 ≤ g) (hg1 : g ≤ 5) : lsV M hand a b f g = 100000 ∨ (0 ≤ lsV M hand a b f g ∧ lsV M hand a b f g ≤ 25) := by
  have := stv_rng hI (hand := hand) (a := a) (b := b) hf0 hf1 hg0 hg1
  unfold lsV
  split
  · left; rfl
  · omega
/-- steps laid: rows 1 to i of note m -/
def LsP (hand a b m i : Int) (M M' : Mm) : Prop := (∀ f g, 1 ≤ f → f ≤ i → 1 ≤ g → g ≤ 5 → M' 15 (25 * m + 5 * f + g - 6) = lsV M hand a b f g) ∧ ∀ c j, ¬ (c = 15 ∧ 25 * m ≤ j ∧ j < 25 * m + 5 * i) → M' c j = M c j
theorem t_loadSteps {m sd hand a b : Int} (hI : RuI M) (hsd : (hand = 0 ∧ sd = 1) ∨ (hand = 1 ∧ sd = -1)) (h0 : 0 ≤ m) (h1 : m < 30) (ha0 : 0 ≤ a) (ha1 : a < 60) (hb0 : 0 ≤ b) (hb1 : b < 60) : Ret 3 0 0 mR_loadSteps [.inr 13, .inl m, .inl sd, .inl a, .inl b] (S0 N) M (fun r S' M' => r = none ∧ S' = S0 N ∧ LsP hand a b m 5 M M') := by
  have inner : ∀ (n i f : Nat) (L7 : Option Vl) (M1 : Mm), i + n = 5 → f < 5 → (∀ c : Nat, c ≠ 15 → M1 c = M c) → AJ 3 0 0 mR_loadSteps (fun r S' M' => r = none ∧ S' = S0 N ∧ LsP hand a b m 5 M M') 0 0 77 [some (.inr 13), some (.inl m), some (.inl sd), some (.inl a), some (.inl b), some (.inl f)] [] (S0 N) (wr M1 15 (25 * m + 5 * f - 1) (lsV M hand a b (f + 1)) 5) → AJ 3 0 0 mR_loadSteps (fun r S' M' => r = none ∧ S' = S0 N ∧ LsP hand a b m 5 M M') 0 0 12 [some (.inr 13), some (.inl m), some (.inl sd), some (.inl a), some (.inl b), some (.inl f), some (.inl i), L7] [] (S0 N) (wr M1 15 (25 * m + 5 * f - 1) (lsV M hand a b (f + 1)) i) := by
    intro n
    induction n with
    | zero =>
      intro i f L7 M1 hi hf hM1 kk
      have : i = 5 := by omega
      subst this
      refine aR_loadSteps [77] 30 (fun hM => ?_)
      exact ⟨by decide, AJ.wk kk ⟨rfl, rfl, rfl, rfl, rfl, rfl, trivial⟩⟩
    | succ n ih =>
      intro i f L7 M1 hi hf hM1 kk
      have fr : ∀ c : Nat, c ≠ 15 → (wr M1 15 (25 * m + 5 * f - 1) (lsV M hand a b (f + 1)) i) c = M c := fun c hc => by rw [← hM1 c hc]; funext j; exact wr_ne (by omega)
      have hI1 : RuI (wr M1 15 (25 * m + 5 * f - 1) (lsV M hand a b (f + 1)) i) := hI.fr (fun c hc => fr c (by omega))
      have sr := stv_rng hI (hand := hand) (a := a) (b := b) (f := (f : Int) + 1) (g := (i : Int) + 1) (by omega) (by omega) (by omega) (by omega)
      have h2 := fun L7 => ih (i + 1) f L7 M1 (by omega) hf hM1 kk
      rw [show ((i + 1 : Nat) : Int) = (i : Int) + 1 by omega] at h2
      have st : ∀ v, v = lsV M hand a b (f + 1) ((i : Int) + 1) → mset (wr M1 15 (25 * m + 5 * f - 1) (lsV M hand a b (f + 1)) i) 15 ((m * 5 + f) * 5 + i) v = wr M1 15 (25 * m + 5 * f - 1) (lsV M hand a b (f + 1)) ((i : Int) + 1) := fun v hv => by
        rw [show (m * 5 + (f : Int)) * 5 + (i : Int) = (25 * m + 5 * f - 1) + ((i : Int) + 1) by omega]; exact wr_step (by omega) hv
      have C := t_stepCost (N := N) (sd := sd) (hand := hand) (a := a) (f := (f : Int) + 1) (b := b) (g := (i : Int) + 1) hI1 hsd ha0 ha1 hb0 hb1 (by omega) (by omega) (by omega) (by omega)
      rw [fr 30 (by omega), fr 27 (by omega), fr 28 (by omega), fr 29 (by omega)] at C
      have el : lsV M hand a b (f + 1) ((i : Int) + 1) = if stv (M 30) (M 27) (M 28) (M 29) hand a ((f : Int) + 1) b ((i : Int) + 1) = 1000000 then 100000 else stv (M 30) (M 27) (M 28) (M 29) hand a ((f : Int) + 1) b ((i : Int) + 1) := rfl
      by_cases q1 : stv (M 30) (M 27) (M 28) (M 29) hand a ((f : Int) + 1) b ((i : Int) + 1) = 1000000
      · rw [if_pos q1] at C el
        refine aR_loadSteps [12] 40 (fun hM => ?_)
        refine ⟨by omega, ite_i (fun _ => ?_) (fun q => by omega)⟩
        refine CL.pu C (Nat.le_of_ble_eq_true rfl) ?_
        refine ⟨by decide, ?_⟩
        refine CL.vo (t_store (n := 750) rfl (by decide) (by omega) (by omega) (Nat.le_of_ble_eq_true rfl) (by decide)) (Nat.le_of_ble_eq_true rfl) (fun hM2 => ?_)
        rw [st _ el.symm]
        exact h2 _
      · rw [if_neg q1] at C el
        refine aR_loadSteps [12] 40 (fun hM => ?_)
        refine ⟨by omega, ite_i (fun _ => ?_) (fun q => by omega)⟩
        refine CL.pu C (Nat.le_of_ble_eq_true rfl) ?_
        refine ⟨by omega, ite_i (fun q => by omega) (fun _ => ?_)⟩
        refine CL.vo (t_store (n := 750) rfl (by decide) (by omega) (by omega) (Nat.le_of_ble_eq_true rfl) (by omega)) (Nat.le_of_ble_eq_true rfl) (fun hM2 => ?_)
        rw [st _ el.symm]
        exact h2 _
  have outer : ∀ (n f : Nat) (M1 : Mm), f + n = 5 → LsP hand a b m f M M1 → AJ 3 0 0 mR_loadSteps (fun r S' M' => r = none ∧ S' = S0 N ∧ LsP hand a b m 5 M M') 0 0 3 [some (.inr 13), some (.inl m), some (.inl sd), some (.inl a), some (.inl b), some (.inl f)] [] (S0 N) M1 := by
    intro n
    induction n with
    | zero =>
      intro f M1 hf hL
      have : f = 5 := by omega
      subst this
      refine aR_loadSteps [] 30 (fun hM => ?_)
      exact ⟨by decide, rfl, rfl, hL⟩
    | succ n ih =>
      intro f M1 hf hL
      have h2 := ih (f + 1) (wr M1 15 (25 * m + 5 * f - 1) (lsV M hand a b (f + 1)) 5) (by omega) ⟨fun f' g z1 z2 z3 z4 => by
          by_cases hff : f' = (f : Int) + 1
          · subst hff
            rw [show 25 * m + 5 * ((f : Int) + 1) + g - 6 = (25 * m + 5 * f - 1) + g by omega, wr_eq z3 z4]
          · rw [wr_ne (by omega)]; exact hL.1 f' g z1 (by omega) z3 z4, fun c j hc => by
          rw [wr_ne (by omega)]; exact hL.2 c j (by omega)⟩
      rw [show ((f + 1 : Nat) : Int) = (f : Int) + 1 by omega] at h2
      have k77 : AJ 3 0 0 mR_loadSteps (fun r S' M' => r = none ∧ S' = S0 N ∧ LsP hand a b m 5 M M') 0 0 77 [some (.inr 13), some (.inl m), some (.inl sd), some (.inl a), some (.inl b), some (.inl f)] [] (S0 N) (wr M1 15 (25 * m + 5 * f - 1) (lsV M hand a b (f + 1)) 5) := by
        refine aR_loadSteps [3] 30 (fun hM => ?_)
        exact h2
      have k12 := inner 5 0 f none M1 (by omega) (by omega) (fun c hc => by funext j; exact hL.2 c j (by omega)) k77
      rw [show ((0 : Nat) : Int) = 0 from rfl, wr_0] at k12
      refine aR_loadSteps [12] 30 (fun hM => ?_)
      refine ⟨by omega, ite_i (fun _ => ?_) (fun q => by omega)⟩
      exact AJ.wk k12 ⟨rfl, rfl, rfl, rfl, rfl, rfl, rfl, trivial⟩
  refine eR_loadSteps [3] 30 (Nat.le_of_ble_eq_true rfl) (fun hM => ?_)
  exact outer 5 0 M (by omega) ⟨fun f g z1 z2 => by omega, fun _ _ _ => rfl⟩
end Rl
