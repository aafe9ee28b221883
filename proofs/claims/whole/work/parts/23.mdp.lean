/-! ===== the reference: a hand's table ===== -/
/-- M agrees with M0 but for the tables' own rows (33 to 37) -/
def Agr (M0 M : Mm) : Prop := ∀ c j, c < 33 ∨ 37 < c → M c j = M0 c j
/-- what is laid out is well laid -/
def LOk (M : Mm) : Prop := RuI M ∧ (M 24 6 = 0 ∨ M 24 6 = 1) ∧ 0 ≤ M 24 7 ∧ M 24 7 ≤ 30 ∧ ∀ k, 0 ≤ k → k < M 24 7 → 0 ≤ M 31 k ∧ M 31 k < 60
abbrev stM (M : Mm) (k f g : Int) : Int := stv (M 30) (M 27) (M 28) (M 29) (M 24 6) (M 31 k) f (M 31 (k + 1)) g
abbrev ncM (M : Mm) (k f : Int) : Int := ncv (M 30) (M 31 k) f
abbrev okM (M : Mm) (k f : Int) : Prop := andI (shrI (M 32 k) f) 1 = 1
def goM (M : Mm) (k f g : Int) : Int := if okM M (k + 1) g then stM M k f g + ncM M (k + 1) g else 1000000
theorem Agr.c {M0 M : Mm} (h : Agr M0 M) (c : Nat) (hc : c < 33 ∨ 37 < c) : M c = M0 c := by
  funext j; exact h c j hc
theorem RuI.agr {M0 M : Mm} (h : Agr M0 M) (hI : RuI M0) : RuI M := by
  unfold RuI at *
  rw [h.c 3 (by omega), h.c 4 (by omega), h.c 27 (by omega), h.c 28 (by omega), h.c 29 (by omega), h.c 30 (by omega)]
  exact hI
theorem R32_andI (x y : Int) : R32 (andI x y) := R32_toInt _
theorem z_isOf {N : Nat} {k f : Int} {M0 M : Mm} (hA : Agr M0 M) (h0 : 0 ≤ k) (h1 : k < 30) : Ret 0 0 0 mM_isOf [.inr 24, .inl k, .inl f] (S0 N) M (Pu (S0 N) M (bi (okM M0 k f))) := by
  have e : M 32 k = M0 32 k := hA 32 k (by omega)
  refine eM_isOf [] 30 (Nat.le_of_ble_eq_true rfl) (fun hM => ?_)
  refine ⟨by omega, ⟨R32_andI _ _, by decide⟩, ite_i (fun q => ?_) (fun q => ?_)⟩
  · exact ⟨Or.inr rfl, pu_eq (bi_t (by rw [e] at q; exact q)).symm⟩
  · exact ⟨Or.inl rfl, pu_eq (bi_f (by rw [e] at q; exact q)).symm⟩
theorem z_stepAt {N : Nat} {k f g : Int} {M0 M : Mm} (hA : Agr M0 M) (hL : LOk M0) (h0 : 0 ≤ k) (h1 : k + 1 < M0 24 7) (hf0 : 1 ≤ f) (hf1 : f ≤ 5) (hg0 : 1 ≤ g) (hg1 : g ≤ 5) : Ret 2 0 0 mM_stepAt [.inr 24, .inl k, .inl f, .inl g] (S0 N) M (Pu (S0 N) M (stM M0 k f g)) := by
  obtain ⟨l1, l2, l3, l4, l5⟩ := hL
  have a1 := l5 k h0 (by omega)
  have a2 := l5 (k + 1) (by omega) (by omega)
  have e24 := hA.c 24 (by omega)
  have e31 := hA.c 31 (by omega)
  have e1 : stM M k f g = stM M0 k f g := by
    unfold stM; rw [e24, e31, hA.c 30 (by omega), hA.c 27 (by omega), hA.c 28 (by omega), hA.c 29 (by omega)]
  rw [← e1]
  refine eM_stepAt [] 30 (Nat.le_of_ble_eq_true rfl) (fun hM => ?_)
  refine ⟨by omega, by omega, CL.pu (z_stepCost (by rw [e24]; exact l2) (by rw [e31]; omega) (by rw [e31]; omega) (by rw [e31]; omega) (by rw [e31]; omega) hf0 hf1 hg0 hg1) (Nat.le_of_ble_eq_true rfl) (pu_eq rfl)⟩
theorem z_goingOn {N : Nat} {k f g : Int} {M0 M : Mm} (hA : Agr M0 M) (hL : LOk M0) (h0 : 0 ≤ k) (h1 : k + 1 < M0 24 7) (hf0 : 1 ≤ f) (hf1 : f ≤ 5) (hg0 : 1 ≤ g) (hg1 : g ≤ 5) : Ret 3 0 0 mM_goingOn [.inr 24, .inl k, .inl f, .inl g] (S0 N) M (Pu (S0 N) M (goM M0 k f g)) := by
  obtain ⟨l1, l2, l3, l4, l5⟩ := id hL
  have a2 := l5 (k + 1) (by omega) (by omega)
  have e31 := hA.c 31 (by omega)
  have e30 := hA.c 30 (by omega)
  refine eM_goingOn [] 30 (Nat.le_of_ble_eq_true rfl) (fun hM => ?_)
  refine CL.bl (z_isOf hA (by omega) (by omega)) (Nat.le_of_ble_eq_true rfl) (fun q => ?_) (fun q => ?_)
  · refine ⟨R32_1, CL.pu (z_stepAt hA hL h0 h1 hf0 hf1 hg0 hg1) (Nat.le_of_ble_eq_true rfl) ?_⟩
    refine ⟨by omega, CL.pu (z_noteCost (RuI.agr hA l1) (by rw [e31]; omega) (by rw [e31]; omega) (by omega)) (Nat.le_of_ble_eq_true rfl) (pu_eq ?_)⟩
    unfold goM ncM; rw [if_pos q, e31, e30]
  · refine ⟨R32_0, pu_eq ?_⟩
    unfold goM; rw [if_neg q]
theorem goM_rng {M : Mm} (hI : RuI M) {k f g : Int} (hf0 : 1 ≤ f) (hf1 : f ≤ 5) (hg0 : 1 ≤ g) (hg1 : g ≤ 5) : (0 ≤ goM M k f g ∧ goM M k f g ≤ 45) ∨ (1000000 ≤ goM M k f g ∧ goM M k f g ≤ 1000020) := by
  have h1 := stv_rng hI (hand := M 24 6) (a := M 31 k) (b := M 31 (k + 1)) hf0 hf1 hg0 hg1
  have h2 := ncv_rng hI (M 31 (k + 1)) g
  unfold goM
  split
  · unfold stM ncM; omega
  · omega
/-- what is left from note k on, with finger f -/
def aft (M : Mm) (k f : Int) : Int := if 0 < M 24 12 ∧ k = M 24 10 then M 37 f else M 35 (6 * k + f)
theorem z_after {N : Nat} {k f : Int} {M : Mm} (h0 : 0 ≤ k) (h1 : k < 30) (hf0 : 1 ≤ f) (hf1 : f ≤ 5) : Ret 0 0 0 mM_after [.inr 24, .inl k, .inl f] (S0 N) M (Pu (S0 N) M (aft M k f)) := by
  refine eM_after [] 30 (Nat.le_of_ble_eq_true rfl) (fun hM => ?_)
  refine ⟨hM _ _, ite_i (fun q => ?_) (fun q => ?_)⟩
  · refine ⟨⟨by omega, hM _ _⟩, ite_i (fun q2 => ?_) (fun q2 => ?_)⟩
    · exact ⟨by omega, pu_eq (by unfold aft; rw [if_pos ⟨q, q2⟩])⟩
    · exact ⟨by omega, pu_eq (by unfold aft; rw [if_neg (fun h => q2 h.2)])⟩
  · exact ⟨by omega, pu_eq (by unfold aft; rw [if_neg (fun h => q h.1)])⟩
