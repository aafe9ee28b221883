/-! ===== the class: fold, its end ===== -/
/-- folded -/
def FdF (M M1 : Mm) : Prop := (∀ u f, 0 ≤ u → u < M 13 9 → 1 ≤ f → f ≤ 5 → M1 14 (5 * (M 13 7 + u) + f - 1) = M 14 (5 * (M 13 7 + u) + f - 1) + M 14 (5 * (M 13 8 + u) + f - 1) + (if u = M 13 9 - 1 then cbV M (M 13 8 + M 13 9 - 1) f else 0)) ∧ (∀ u y, 0 ≤ u → u + 1 < M 13 9 → 1 ≤ y → y ≤ 25 → M1 15 (25 * (M 13 7 + u) + y - 1) = M 15 (25 * (M 13 7 + u) + y - 1) + M 15 (25 * (M 13 8 + u) + y - 1)) ∧ ∀ c j, ¬ (c = 14 ∧ 5 * M 13 7 ≤ j ∧ j < 5 * (M 13 7 + M 13 9)) → ¬ (c = 15 ∧ 25 * M 13 7 ≤ j ∧ j < 25 * (M 13 7 + M 13 9 - 1)) → M1 c j = M c j
section Rh
variable {N : Nat} {M : Mm}
theorem cbV_congr2 {A : Mm} {m f : Int} (hf0 : 1 ≤ f) (hf1 : f ≤ 5) (h6 : A 13 6 = M 13 6) (h15 : ∀ y, 1 ≤ y → y ≤ 25 → A 15 (25 * m + y - 1) = M 15 (25 * m + y - 1)) (h16 : ∀ g, 1 ≤ g → g ≤ 5 → A 16 (5 * (m + 1) + g - 1) = M 16 (5 * (m + 1) + g - 1)) : cbV A m f = cbV M m f := by
  unfold cbV
  rw [h6]
  split
  · exact c5_congr (fun g g1 g2 => by
      have := h15 (5 * f + g - 5) (by omega) (by omega)
      rw [show 25 * m + (5 * f + g - 5) - 1 = 25 * m + 5 * f + g - 6 by omega] at this
      show A 15 _ + A 16 _ = _; rw [this, h16 g g1 g2])
  · rfl
theorem cbV_bd (hB : FdB M) (hT : FdT M) {f : Int} (hf0 : 1 ≤ f) (hf1 : f ≤ 5) : 0 ≤ cbV M (M 13 8 + M 13 9 - 1) f ∧ cbV M (M 13 8 + M 13 9 - 1) f ≤ 100000 := by
  obtain ⟨t1, t2, t3, t4, t5⟩ := hT
  unfold cbV
  split
  · rename_i q
    exact c5_rng (fun g g1 g2 => by
      have a := hB.2.1 (M 13 8 + M 13 9 - 1) (5 * f + g - 5) (by omega) q (by omega) (by omega)
      have b := hB.2.2 (by omega) g g1 g2
      rw [show 25 * (M 13 8 + M 13 9 - 1) + (5 * f + g - 5) - 1 = 25 * (M 13 8 + M 13 9 - 1) + 5 * f + g - 6 by omega] at a
      rw [show 5 * (M 13 8 + M 13 9) + g - 1 = 5 * (M 13 8 + M 13 9 - 1 + 1) + g - 1 by omega] at b
      show 0 ≤ M 15 _ + M 16 _
      omega)
  · omega
theorem t_fold (hB : FdB M) (hT : FdT M) : Ret 3 0 0 mR_fold [.inr 13] (S0 N) M (fun r S' M' => r = none ∧ S' = S0 N ∧ FdF M M') := by
  obtain ⟨t1, t2, t3, t4, t5⟩ := id hT
  have second : ∀ M1, FdR (M 13 9) M M1 → AJ 3 0 0 mR_fold (fun r S' M' => r = none ∧ S' = S0 N ∧ FdF M M') 0 0 67 [some (.inr 13)] [] (S0 N) M1 := by
    intro M1 hR
    obtain ⟨r1, r2, r3⟩ := hR
    have base : ∀ f, 1 ≤ f → f ≤ 5 → 0 ≤ M1 14 (5 * (M 13 7 + M 13 9 - 1) + f - 1) ∧ M1 14 (5 * (M 13 7 + M 13 9 - 1) + f - 1) ≤ 200000 := fun f f1 f2 => by
      have e := r1 (M 13 9 - 1) f (by omega) (by omega) f1 f2
      have x1 := hB.1 (M 13 7 + (M 13 9 - 1)) f (by omega) (by omega) f1 f2
      have x2 := hB.1 (M 13 8 + (M 13 9 - 1)) f (by omega) (by omega) f1 f2
      rw [show M 13 7 + M 13 9 - 1 = M 13 7 + (M 13 9 - 1) by omega, e]
      omega
    have loop : ∀ (n i : Nat) (L2 : Option Vl), i + n = 5 → AJ 3 0 0 mR_fold (fun r S' M' => r = none ∧ S' = S0 N ∧ FdF M M') 0 0 69 [some (.inr 13), some (.inl i), L2] [] (S0 N) (wr M1 14 (5 * (M 13 7 + M 13 9 - 1) - 1) (fun f => M1 14 (5 * (M 13 7 + M 13 9 - 1) + f - 1) + cbV M (M 13 8 + M 13 9 - 1) f) i) := by
      intro n
      induction n with
      | zero =>
        intro i L2 hi
        have : i = 5 := by omega
        subst this
        refine aR_fold [] 30 (fun hM => ?_)
        refine ⟨by decide, rfl, rfl, fun u f u0 u1 f1 f2 => ?_, fun u y u0 u1 y1 y2 => ?_, fun c j h1 h2 => ?_⟩
        · by_cases hu : u = M 13 9 - 1
          · rw [if_pos hu, show 5 * (M 13 7 + u) + f - 1 = (5 * (M 13 7 + M 13 9 - 1) - 1) + f by omega, wr_eq (i := ((5 : Nat) : Int)) f1 (by omega)]
            have e := r1 u f u0 u1 f1 f2
            rw [show 5 * (M 13 7 + u) + f - 1 = 5 * (M 13 7 + M 13 9 - 1) + f - 1 by omega] at e
            show M1 14 (5 * (M 13 7 + M 13 9 - 1) + f - 1) + cbV M (M 13 8 + M 13 9 - 1) f = _
            rw [e, show 5 * (M 13 7 + M 13 9 - 1) - 1 + f = 5 * (M 13 7 + M 13 9 - 1) + f - 1 by omega]
          · rw [if_neg hu, Int.add_zero, wr_ne (by omega)]; exact r1 u f u0 u1 f1 f2
        · rw [wr_ne (by omega)]; exact r2 u y u0 (by omega) u1 y1 y2
        · rw [wr_ne (by omega)]; exact r3 c j h1 (by omega)
      | succ n ih =>
        intro i L2 hi
        have hM2 : ∀ c j, c ≠ 14 → (wr M1 14 (5 * (M 13 7 + M 13 9 - 1) - 1) (fun f => M1 14 (5 * (M 13 7 + M 13 9 - 1) + f - 1) + cbV M (M 13 8 + M 13 9 - 1) f) i) c j = M1 c j := fun c j hc => wr_ne (by omega)
        have e14 : (wr M1 14 (5 * (M 13 7 + M 13 9 - 1) - 1) (fun f => M1 14 (5 * (M 13 7 + M 13 9 - 1) + f - 1) + cbV M (M 13 8 + M 13 9 - 1) f) i) 14 ((M 13 7 + M 13 9 - 1) * 5 + i) = M1 14 (5 * (M 13 7 + M 13 9 - 1) + ((i : Int) + 1) - 1) := by rw [wr_ne (by omega), show (M 13 7 + M 13 9 - 1) * 5 + (i : Int) = 5 * (M 13 7 + M 13 9 - 1) + ((i : Int) + 1) - 1 by omega]
        have h3 := fun L2 => ih (i + 1) L2 (by omega)
        rw [show ((i + 1 : Nat) : Int) = (i : Int) + 1 by omega] at h3
        have st := wr_step (M := M1) (c := 14) (b := 5 * (M 13 7 + M 13 9 - 1) - 1) (i := i) (V := fun f => M1 14 (5 * (M 13 7 + M 13 9 - 1) + f - 1) + cbV M (M 13 8 + M 13 9 - 1) f) (v := M1 14 (5 * (M 13 7 + M 13 9 - 1) + ((i : Int) + 1) - 1) + cbV M (M 13 8 + M 13 9 - 1) ((i : Int) + 1)) (by omega) rfl
        generalize wr M1 14 (5 * (M 13 7 + M 13 9 - 1) - 1) (fun f => M1 14 (5 * (M 13 7 + M 13 9 - 1) + f - 1) + cbV M (M 13 8 + M 13 9 - 1) f) (i : Int) = M2 at *
        have g7 : M2 13 7 = M 13 7 := by rw [hM2 13 7 (by omega)]; exact r3 13 7 (by omega) (by omega)
        have g8 : M2 13 8 = M 13 8 := by rw [hM2 13 8 (by omega)]; exact r3 13 8 (by omega) (by omega)
        have g9 : M2 13 9 = M 13 9 := by rw [hM2 13 9 (by omega)]; exact r3 13 9 (by omega) (by omega)
        have g6 : M2 13 6 = M 13 6 := by rw [hM2 13 6 (by omega)]; exact r3 13 6 (by omega) (by omega)
        have g15 : ∀ y, 1 ≤ y → y ≤ 25 → M2 15 (25 * (M 13 8 + M 13 9 - 1) + y - 1) = M 15 (25 * (M 13 8 + M 13 9 - 1) + y - 1) := fun y y1 y2 => by rw [hM2 15 _ (by omega)]; exact r3 15 _ (by omega) (by omega)
        have g16 : ∀ j, M2 16 j = M 16 j := fun j => by rw [hM2 16 _ (by omega)]; exact r3 16 _ (by omega) (by omega)
        have ec := cbV_congr2 (A := M2) (M := M) (m := M 13 8 + M 13 9 - 1) (f := (i : Int) + 1) (by omega) (by omega) g6 g15 (fun g _ _ => g16 _)
        have cr := cbV_bd hB hT (f := (i : Int) + 1) (by omega) (by omega)
        have br := base ((i : Int) + 1) (by omega) (by omega)
        have C := t_costBehind (N := N) (M := M2) (m := M 13 8 + M 13 9 - 1) (f := i) (by omega) (by omega) (by omega) (by omega) (by omega) (fun q g g1 g2 => by
          rw [g6] at q
          have a := hB.2.1 (M 13 8 + M 13 9 - 1) (5 * ((i : Int) + 1) + g - 5) (by omega) q (by omega) (by omega)
          have b := hB.2.2 (by omega) g g1 g2
          have c := g15 (5 * ((i : Int) + 1) + g - 5) (by omega) (by omega)
          rw [show 25 * (M 13 8 + M 13 9 - 1) + (5 * ((i : Int) + 1) + g - 5) - 1 = 25 * (M 13 8 + M 13 9 - 1) + 5 * ((i : Int) + 1) + g - 6 by omega] at a c
          rw [show 5 * (M 13 8 + M 13 9) + g - 1 = 5 * (M 13 8 + M 13 9 - 1 + 1) + g - 1 by omega] at b
          rw [c, g16]
          omega)
        rw [ec] at C
        have C' : Ret 2 0 0 mR_costBehind [.inr 13, .inl (M2 13 8 + M2 13 9 - 1), .inl i] (S0 N) M2 (Pu (S0 N) M2 (cbV M (M 13 8 + M 13 9 - 1) ((i : Int) + 1))) := by rw [g8, g9]; exact C
        have e14' : M2 14 ((M2 13 7 + M2 13 9 - 1) * 5 + i) = M1 14 (5 * (M 13 7 + M 13 9 - 1) + ((i : Int) + 1) - 1) := by rw [g7, g9]; exact e14
        have T := t_at (N := N) (c := 14) (n := 150) (p := (M2 13 7 + M2 13 9 - 1) * 5 + i) (M := M2) rfl (by omega) (by omega) (Nat.le_of_ble_eq_true rfl)
        rw [e14'] at T
        have St := t_store (N := N) (c := 14) (n := 150) (p := (M2 13 7 + M2 13 9 - 1) * 5 + i) (v := M1 14 (5 * (M 13 7 + M 13 9 - 1) + ((i : Int) + 1) - 1) + cbV M (M 13 8 + M 13 9 - 1) ((i : Int) + 1)) (M := M2) rfl (by decide) (by omega) (by omega) (Nat.le_of_ble_eq_true rfl) (by omega)
        have es : (M2 13 7 + M2 13 9 - 1) * 5 + (i : Int) = 5 * (M 13 7 + M 13 9 - 1) - 1 + ((i : Int) + 1) := by omega
        have St' : Ret 0 0 0 mK_store [.inr 14, .inl ((M2 13 7 + M2 13 9 - 1) * 5 + i), .inl (M1 14 (5 * (M 13 7 + M 13 9 - 1) + ((i : Int) + 1) - 1) + cbV M (M 13 8 + M 13 9 - 1) ((i : Int) + 1))] (S0 N) M2 (Vo (S0 N) (wr M1 14 (5 * (M 13 7 + M 13 9 - 1) - 1) (fun f => M1 14 (5 * (M 13 7 + M 13 9 - 1) + f - 1) + cbV M (M 13 8 + M 13 9 - 1) f) ((i : Int) + 1))) := by rw [← st, ← es]; exact St
        refine aR_fold [69] 60 (fun hM => ?_)
        refine ⟨by omega, ite_i (fun _ => ?_) (fun q => by omega)⟩
        refine CL.pu T (Nat.le_of_ble_eq_true rfl) (CL.pu C' (Nat.le_of_ble_eq_true rfl) (CL.vo St' (Nat.le_of_ble_eq_true rfl) (fun hM4 => ?_)))
        exact h3 _
    have L := loop 5 0 none (by omega)
    rw [show ((0 : Nat) : Int) = 0 from rfl, wr_0] at L
    refine aR_fold [69] 30 (fun hM => ?_)
    exact AJ.wk L ⟨rfl, rfl, trivial⟩
  refine eR_fold [2] 30 (Nat.le_of_ble_eq_true rfl) (fun hM => ?_)
  exact t_fold_1 hB hT second (M 13 9).toNat 0 (by omega) M ⟨fun u f u0 u1 => by omega, fun u y u0 u1 => by omega, fun _ _ _ _ => rfl⟩
end Rh
