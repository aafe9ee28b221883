/-! ===== the class: fold ===== -/
/-- what a fold looks at is small -/
def FdB (M : Mm) : Prop := (∀ m f, 0 ≤ m → m < M 13 6 → 1 ≤ f → f ≤ 5 → 0 ≤ M 14 (5 * m + f - 1) ∧ M 14 (5 * m + f - 1) ≤ 100000) ∧ (∀ m y, 0 ≤ m → m + 1 < M 13 6 → 1 ≤ y → y ≤ 25 → 0 ≤ M 15 (25 * m + y - 1) ∧ M 15 (25 * m + y - 1) ≤ 100000) ∧ (M 13 8 + M 13 9 < M 13 6 → ∀ g, 1 ≤ g → g ≤ 5 → 0 ≤ M 16 (5 * (M 13 8 + M 13 9) + g - 1) ∧ M 16 (5 * (M 13 8 + M 13 9) + g - 1) ≤ 2000000)
/-- the tie's numbers fit -/
def FdT (M : Mm) : Prop := 0 ≤ M 13 7 ∧ 1 ≤ M 13 9 ∧ M 13 7 + M 13 9 ≤ M 13 8 ∧ M 13 8 + M 13 9 ≤ M 13 6 ∧ M 13 6 ≤ 30
/-- folded up to t -/
def FdR (t : Int) (M M1 : Mm) : Prop := (∀ u f, 0 ≤ u → u < t → 1 ≤ f → f ≤ 5 → M1 14 (5 * (M 13 7 + u) + f - 1) = M 14 (5 * (M 13 7 + u) + f - 1) + M 14 (5 * (M 13 8 + u) + f - 1)) ∧ (∀ u y, 0 ≤ u → u < t → u + 1 < M 13 9 → 1 ≤ y → y ≤ 25 → M1 15 (25 * (M 13 7 + u) + y - 1) = M 15 (25 * (M 13 7 + u) + y - 1) + M 15 (25 * (M 13 8 + u) + y - 1)) ∧ ∀ c j, ¬ (c = 14 ∧ 5 * M 13 7 ≤ j ∧ j < 5 * (M 13 7 + t)) → ¬ (c = 15 ∧ 25 * M 13 7 ≤ j ∧ j < 25 * (M 13 7 + t) ∧ j < 25 * (M 13 7 + M 13 9 - 1)) → M1 c j = M c j
section Rg
variable {N : Nat} {M : Mm}
theorem t_fold_1 {Φ : Option Vl → Ly → Mm → Prop} (hB : FdB M) (hT : FdT M) (kk : ∀ M1, FdR (M 13 9) M M1 → AJ 3 0 0 mR_fold Φ 0 0 67 [some (.inr 13)] [] (S0 N) M1) : ∀ (n i : Nat), (i : Int) + n = M 13 9 → ∀ M1, FdR i M M1 → AJ 3 0 0 mR_fold Φ 0 0 2 [some (.inr 13), some (.inl i)] [] (S0 N) M1 := by
  obtain ⟨t1, t2, t3, t4, t5⟩ := hT
  obtain ⟨b1, b2, b3⟩ := hB
  intro n
  induction n with
  | zero =>
    intro i hi M1 hR
    have e9 : M1 13 9 = M 13 9 := hR.2.2 13 9 (by omega) (by omega)
    have hi' : (i : Int) = M 13 9 := by omega
    refine aR_fold [67] 30 (fun hM => ?_)
    refine ⟨by omega, ite_i (fun q => by omega) (fun _ => ?_)⟩
    exact AJ.wk (kk M1 (by rw [← hi']; exact hR)) ⟨rfl, trivial⟩
  | succ n ih =>
    intro i hi M1 hR
    have e9 : M1 13 9 = M 13 9 := hR.2.2 13 9 (by omega) (by omega)
    have e8 : M1 13 8 = M 13 8 := hR.2.2 13 8 (by omega) (by omega)
    have e7 : M1 13 7 = M 13 7 := hR.2.2 13 7 (by omega) (by omega)
    have g14 : ∀ m f, (m = M 13 7 + i ∨ m = M 13 8 + i) → 1 ≤ f → f ≤ 5 → M1 14 (5 * m + f - 1) = M 14 (5 * m + f - 1) := fun m f q1 q2 q3 => hR.2.2 14 _ (by omega) (by omega)
    have g15 : ∀ m y, (m = M 13 7 + i ∨ m = M 13 8 + i) → 1 ≤ y → y ≤ 25 → M1 15 (25 * m + y - 1) = M 15 (25 * m + y - 1) := fun m y q1 q2 q3 => hR.2.2 15 _ (by omega) (by omega)
    have A1 := t_addFrom (N := N) (M := M1) (c := 14) (z := 150) (v := 5) (to := M 13 7 + i) (fr := M 13 8 + i) (Or.inl ⟨rfl, rfl, rfl⟩) (by omega) (by omega) (by omega) (fun f f1 f2 => by
      rw [g14 _ f (Or.inl rfl) f1 f2, g14 _ f (Or.inr rfl) f1 f2]
      have x1 := b1 (M 13 7 + i) f (by omega) (by omega) f1 f2
      have x2 := b1 (M 13 8 + i) f (by omega) (by omega) f1 f2
      omega)
    have v14 : ∀ f, 1 ≤ f → f ≤ 5 → adV M1 14 5 (M 13 7 + i) (M 13 8 + i) f = M 14 (5 * (M 13 7 + i) + f - 1) + M 14 (5 * (M 13 8 + i) + f - 1) := fun f f1 f2 => by
      unfold adV; rw [g14 _ f (Or.inl rfl) f1 f2, g14 _ f (Or.inr rfl) f1 f2]
    generalize hM2 : wr M1 14 (5 * (M 13 7 + i) - 1) (adV M1 14 5 (M 13 7 + i) (M 13 8 + i)) 5 = M2 at A1
    have m14 : ∀ u f, 0 ≤ u → u < (i : Int) + 1 → 1 ≤ f → f ≤ 5 → M2 14 (5 * (M 13 7 + u) + f - 1) = M 14 (5 * (M 13 7 + u) + f - 1) + M 14 (5 * (M 13 8 + u) + f - 1) := fun u f u0 u1 f1 f2 => by
      rw [← hM2]
      by_cases hu : u = i
      · subst hu
        rw [show 5 * (M 13 7 + (i : Int)) + f - 1 = (5 * (M 13 7 + i) - 1) + f by omega, wr_eq f1 f2, v14 f f1 f2, show 5 * (M 13 7 + (i : Int)) - 1 + f = 5 * (M 13 7 + i) + f - 1 by omega]
      · rw [wr_ne (by omega)]; exact hR.1 u f u0 (by omega) f1 f2
    have m2 : ∀ c j, ¬ (c = 14 ∧ 5 * (M 13 7 + i) ≤ j ∧ j < 5 * (M 13 7 + i) + 5) → M2 c j = M1 c j := fun c j hc => by rw [← hM2]; exact wr_ne (by omega)
    have next : ∀ M3, FdR ((i : Int) + 1) M M3 → AJ 3 0 0 mR_fold Φ 0 0 2 [some (.inr 13), some (.inl ((i : Int) + 1))] [] (S0 N) M3 := fun M3 h3 => by
      have := ih (i + 1) (by omega) M3 (by rw [show ((i + 1 : Nat) : Int) = (i : Int) + 1 by omega]; exact h3)
      rw [show ((i + 1 : Nat) : Int) = (i : Int) + 1 by omega] at this
      exact this
    have f9 : M2 13 9 = M 13 9 := by rw [m2 13 9 (by omega)]; exact e9
    have f8 : M2 13 8 = M 13 8 := by rw [m2 13 8 (by omega)]; exact e8
    have f7 : M2 13 7 = M 13 7 := by rw [m2 13 7 (by omega)]; exact e7
    have A1' : Ret 1 0 0 mR_addFrom [.inr 14, .inl (M1 13 7 + i), .inl (M1 13 8 + i), .inl 5] (S0 N) M1 (Vo (S0 N) M2) := by rw [e7, e8]; exact A1
    refine aR_fold [2] 40 (fun hM => ?_)
    refine ⟨by omega, ite_i (fun _ => ?_) (fun q => by omega)⟩
    refine CL.vo A1' (Nat.le_of_ble_eq_true rfl) (fun hM3 => ?_)
    refine ⟨by omega, ite_i (fun q => ?_) (fun q => ?_)⟩
    · have h15 : ∀ m y, (m = M 13 7 + i ∨ m = M 13 8 + i) → 1 ≤ y → y ≤ 25 → M2 15 (25 * m + y - 1) = M 15 (25 * m + y - 1) := fun m y q1 q2 q3 => by rw [m2 15 _ (by omega)]; exact g15 m y q1 q2 q3
      have A2 := t_addFrom (N := N) (M := M2) (c := 15) (z := 750) (v := 25) (to := M 13 7 + i) (fr := M 13 8 + i) (Or.inr ⟨rfl, rfl, rfl⟩) (by omega) (by omega) (by omega) (fun f f1 f2 => by
        rw [h15 _ f (Or.inl rfl) f1 f2, h15 _ f (Or.inr rfl) f1 f2]
        have x1 := b2 (M 13 7 + i) f (by omega) (by omega) f1 f2
        have x2 := b2 (M 13 8 + i) f (by omega) (by omega) f1 f2
        omega)
      have v15 : ∀ f, 1 ≤ f → f ≤ 25 → adV M2 15 25 (M 13 7 + i) (M 13 8 + i) f = M 15 (25 * (M 13 7 + i) + f - 1) + M 15 (25 * (M 13 8 + i) + f - 1) := fun f f1 f2 => by
        unfold adV; rw [h15 _ f (Or.inl rfl) f1 f2, h15 _ f (Or.inr rfl) f1 f2]
      have A2' : Ret 1 0 0 mR_addFrom [.inr 15, .inl (M2 13 7 + i), .inl (M2 13 8 + i), .inl 25] (S0 N) M2 (Vo (S0 N) (wr M2 15 (25 * (M 13 7 + i) - 1) (adV M2 15 25 (M 13 7 + i) (M 13 8 + i)) 25)) := by rw [f7, f8]; exact A2
      refine CL.vo A2' (Nat.le_of_ble_eq_true rfl) (fun hM4 => ?_)
      refine next _ ⟨fun u f u0 u1 f1 f2 => ?_, fun u y u0 u1 u2 y1 y2 => ?_, fun c j h1 h2 => ?_⟩
      · rw [wr_ne (by omega)]; exact m14 u f u0 u1 f1 f2
      · by_cases hu : u = i
        · subst hu
          rw [show 25 * (M 13 7 + (i : Int)) + y - 1 = (25 * (M 13 7 + i) - 1) + y by omega, wr_eq y1 y2, v15 y y1 y2, show 25 * (M 13 7 + (i : Int)) - 1 + y = 25 * (M 13 7 + i) + y - 1 by omega]
        · rw [wr_ne (by omega), m2 15 _ (by omega)]; exact hR.2.1 u y u0 (by omega) u2 y1 y2
      · rw [wr_ne (by omega), m2 c j (by omega)]; exact hR.2.2 c j (by omega) (by omega)
    · refine next _ ⟨fun u f u0 u1 f1 f2 => m14 u f u0 u1 f1 f2, fun u y u0 u1 u2 y1 y2 => ?_, fun c j h1 h2 => ?_⟩
      · rw [m2 15 _ (by omega)]; exact hR.2.1 u y u0 (by omega) u2 y1 y2
      · rw [m2 c j (by omega)]; exact hR.2.2 c j (by omega) (by omega)
end Rg
