/-! ===== the reference: echo, tieEcho, two hands ===== -/
theorem Laid.fr {M M1 : Mm} {h : Int} (hl : Laid M M1 h) : FrM M M1 := fun c j z => hl.2.2.2 c j (by omega)
section Two
variable {N : Nat} {M : Mm}
def echoV (M : Mm) (x k w : Int) : Int := if phV M x = -9 then -1 else if (0 ≤ k ∧ k ≤ 29) ∧ 0 ≤ w ∧ w ≤ 1 then (if echS M (phV M x) k = -9 ∨ w = 0 then echS M (phV M x) k else alk (kyF M (M 44 (phV M x))) (M 45 (phV M x)) (echS M (phV M x) k) (M 46 (phV M x)).toNat) else -2
theorem echS_rng {p : Int} (hP : PhI M) (hp0 : 0 ≤ p) (hp1 : p < M 24 25) (k : Int) : echS M p k = -9 ∨ (M 45 p + M 46 p ≤ echS M p k ∧ echS M p k + M 46 p ≤ cnt (fK M (M 44 p)) 30 ∧ M 45 p + M 46 p ≤ cnt (fK M (M 44 p)) 30) := by
  have b := hP.2 p hp0 hp1
  have := eaV_rng (E := ecP (kyF M (M 44 p)) (cnt (fK M (M 44 p)) 30) (M 45 p) (M 46 p)) (cnt (fK M (M 44 p)) 30 - (M 45 p + M 46 p)).toNat (M 45 p + M 46 p) k
  unfold echS
  rcases this with q | ⟨q1, q2, q3⟩
  · exact Or.inl q
  · exact Or.inr ⟨q1, q3.2.1, q3.1⟩
theorem z_echo {x k w : Int} (hx : R32 x) (hk : R32 k) (hw : R32 w) (hP : PhI M) (hI : MI M) (hC : ChI M) : Ret 2 0 0 mM_echo [.inr 24, .inl x, .inl k, .inl w] (S0 N) M (fun r S' M' => r = some (.inl (echoV M x k w)) ∧ S' = S0 N ∧ Ak M M') := by
  have pr := phV_rng hP x
  have a := hP.1
  have rf : Ak M M := ⟨fun _ _ _ => rfl, hC⟩
  refine eM_echo [] 40 (Nat.le_of_ble_eq_true rfl) (fun hM => ?_)
  refine CL.pu (z_phraseOf hx hP) (Nat.le_of_ble_eq_true rfl) ?_
  refine ⟨by omega, ite_i (fun q => ?_) (fun q => ?_)⟩
  · exact ⟨by unfold echoV; rw [if_pos q], rfl, rf⟩
  · refine CL.bl (z_within hk R32_0 (by decide)) (Nat.le_of_ble_eq_true rfl) (fun q1 => ?_) (fun q1 => ?_)
    · refine ⟨R32_1, CL.bl (z_within hw R32_0 R32_1) (Nat.le_of_ble_eq_true rfl) (fun q2 => ?_) (fun q2 => ?_)⟩
      · have b := hP.2 (phV M x) (by omega) (by omega)
        have er := echS_rng hP (p := phV M x) (by omega) (by omega) k
        have cr := cnt_rng (fK M (M 44 (phV M x))) 30
        refine ⟨R32_1, ⟨1, _, (Nat.le_of_ble_eq_true rfl), z_echoAt hP hI.2.1 (by omega) (by omega) q1.1 q1.2, ?_⟩⟩
        rintro r S' M1 ⟨rfl, rfl, hl⟩ hM1
        have ak : Ak M M1 := ⟨hl.fr.a, hC.fr hI hl.fr⟩
        refine ⟨by omega, ite_i (fun q3 => ?_) (fun q3 => ?_)⟩
        · exact ⟨by unfold echoV; rw [if_neg q, if_pos ⟨q1, q2⟩, if_pos (Or.inl q3)], rfl, ak⟩
        · refine ⟨by omega, ite_i (fun q4 => ?_) (fun q4 => ?_)⟩
          · exact ⟨by unfold echoV; rw [if_neg q, if_pos ⟨q1, q2⟩, if_pos (Or.inr q4)], rfl, ak⟩
          · have f : ∀ c j, ¬ (c = 31 ∨ c = 32 ∨ (c = 24 ∧ (j = 6 ∨ j = 7))) → M1 c j = M c j := hl.2.2.2
            have e5 : M1 45 (phV M x) = M 45 (phV M x) := f _ _ (by omega)
            have e6 : M1 46 (phV M x) = M 46 (phV M x) := f _ _ (by omega)
            have e25 : M1 24 25 = M 24 25 := f _ _ (by omega)
            have e7 := hl.2.1
            have hP1 : PhI M1 := by
              unfold PhI at *
              rw [e25]
              refine ⟨a, fun q z1 z2 => ?_⟩
              rw [f 43 _ (by omega), f 44 _ (by omega), f 45 _ (by omega), f 46 _ (by omega)]; exact hP.2 q z1 z2
            refine CL.pu (z_likeness hP1 (by omega) (by omega) (laid_KOk b.2.1 hI.2.1 hl) (by omega) (by omega) (by omega)) (Nat.le_of_ble_eq_true rfl) ?_
            refine ⟨?_, rfl, ak⟩
            unfold echoV
            rw [if_neg q, if_pos ⟨q1, q2⟩, if_neg (by omega), e5, e6]
            rw [alk_congr (K' := kyF M (M 44 (phV M x))) _ (fun i hi => ⟨laid_31 hl (by omega) (by omega), laid_31 hl (by omega) (by omega)⟩)]
      · exact ⟨R32_0, by unfold echoV; rw [if_neg q, if_neg (fun z => q2 z.2)], rfl, rf⟩
    · exact ⟨R32_0, by unfold echoV; rw [if_neg q, if_neg (fun z => q1 z.1)], rfl, rf⟩
abbrev tieEchoK (M : Mm) (x k : Int) : Prop := phV M x ≠ -9 ∧ (0 ≤ k ∧ k ≤ 29) ∧ echS M (phV M x) k ≠ -9
def tieEchoV (M : Mm) (x k : Int) : Int := if phV M x = -9 then -1 else if 0 ≤ k ∧ k ≤ 29 then (if echS M (phV M x) k = -9 then -3 else 1) else -2
theorem z_tieEcho {x k : Int} (hx : R32 x) (hk : R32 k) (hP : PhI M) (hI : MI M) (hC : ChI M) : Ret 3 0 0 mM_tieEcho [.inr 24, .inl x, .inl k] (S0 N) M (fun r S' M' => r = some (.inl (tieEchoV M x k)) ∧ S' = S0 N ∧ (¬ tieEchoK M x k → Ak M M') ∧ (tieEchoK M x k → ∃ M1, FrM M M1 ∧ M' = chg (tieE M1 (M 44 (phV M x)) (M 45 (phV M x)) (echS M (phV M x) k) (M 46 (phV M x))))) := by
  have pr := phV_rng hP x
  have a := hP.1
  have rf : Ak M M := ⟨fun _ _ _ => rfl, hC⟩
  refine eM_tieEcho [] 40 (Nat.le_of_ble_eq_true rfl) (fun hM => ?_)
  refine CL.pu (z_phraseOf hx hP) (Nat.le_of_ble_eq_true rfl) ?_
  refine ⟨by omega, ite_i (fun q => ?_) (fun q => ?_)⟩
  · exact ⟨by unfold tieEchoV; rw [if_pos q], rfl, fun _ => rf, fun z => absurd q z.1⟩
  · refine CL.bl (z_within hk R32_0 (by decide)) (Nat.le_of_ble_eq_true rfl) (fun q1 => ?_) (fun q1 => ?_)
    · have b := hP.2 (phV M x) (by omega) (by omega)
      have er := echS_rng hP (p := phV M x) (by omega) (by omega) k
      have cr := cnt_rng (fK M (M 44 (phV M x))) 30
      refine ⟨R32_1, ⟨1, _, (Nat.le_of_ble_eq_true rfl), z_echoAt hP hI.2.1 (by omega) (by omega) q1.1 q1.2, ?_⟩⟩
      rintro r S' M1 ⟨rfl, rfl, hl⟩ hM1
      have ak : Ak M M1 := ⟨hl.fr.a, hC.fr hI hl.fr⟩
      refine ⟨by omega, ite_i (fun q3 => ?_) (fun q3 => ?_)⟩
      · exact ⟨by unfold tieEchoV; rw [if_neg q, if_pos q1, if_pos q3], rfl, fun _ => ak, fun z => absurd q3 z.2.2⟩
      · have f : ∀ c j, ¬ (c = 31 ∨ c = 32 ∨ (c = 24 ∧ (j = 6 ∨ j = 7))) → M1 c j = M c j := hl.2.2.2
        have e4 : M1 44 (phV M x) = M 44 (phV M x) := f _ _ (by omega)
        have e5 : M1 45 (phV M x) = M 45 (phV M x) := f _ _ (by omega)
        have e6 : M1 46 (phV M x) = M 46 (phV M x) := f _ _ (by omega)
        have ec : cnt (fK M1 (M 44 (phV M x))) 30 = cnt (fK M (M 44 (phV M x))) 30 := cnt_fr (fun j => f 25 j (by omega))
        have T := z_ties (N := N) (M := M1) (h := M 44 (phV M x)) (i := M 45 (phV M x)) (j := echS M (phV M x) k) (n := M 46 (phV M x)) b.2.1 (hI.fr hl.fr).2.2 (by omega) (by omega) (by omega) (by omega)
        rw [ec, bi_t (by omega)] at T
        refine ⟨by omega, by omega, by omega, ?_⟩
        rw [e4, e5, e6]
        refine ⟨2, _, (Nat.le_of_ble_eq_true rfl), T, ?_⟩
        rintro r S' M' ⟨rfl, rfl, rfl⟩ hM'
        exact ⟨by unfold tieEchoV; rw [if_neg q, if_pos q1, if_neg q3], rfl, fun z => absurd ⟨q, q1, q3⟩ z, fun _ => ⟨M1, hl.fr, rfl⟩⟩
    · exact ⟨R32_0, by unfold tieEchoV; rw [if_neg q, if_neg q1], rfl, fun _ => rf, fun z => absurd z.2.1 q1⟩
/-! moments of both hands -/
abbrev soP (a b w : Int) : Prop := (w = 0 ∧ a ≠ -9 ∧ b ≠ -9 ∧ a < b) ∨ (w = 1 ∧ a ≠ -9 ∧ b ≠ -9 ∧ a = b) ∨ (w = 2 ∧ ((a ≠ -9 ∧ b = -9) ∨ (a = -9 ∧ b ≠ -9))) ∨ (w ≠ 0 ∧ w ≠ 1 ∧ w ≠ 2 ∧ a = -9 ∧ b = -9)
abbrev soM (M : Mm) (w : Int) : Int → Prop := fun m => soP (M 25 m) (M 25 (30 + m)) w
theorem z_isSo {m w : Int} (h0 : 0 ≤ m) (h1 : m < 30) (hw : 0 ≤ w ∧ w ≤ 3) (hK : KyI M) : Ret 0 0 0 mM_isSo [.inr 24, .inl m, .inl w] (S0 N) M (Pu (S0 N) M (bi (soM M w m))) := by
  have a := hK m (by omega) (by omega)
  have b := hK (30 + m) (by omega) (by omega)
  refine eM_isSo [] 60 (Nat.le_of_ble_eq_true rfl) (fun hM => ?_)
  refine ⟨by omega, by omega, ?_⟩
  repeat' first
    | (exact ⟨Or.inr rfl, pu_eq (bi_t (by omega)).symm⟩)
    | (exact ⟨Or.inl rfl, pu_eq (bi_f (by omega)).symm⟩)
    | (exact hM _ _)
    | (refine ite_i (fun _ => ?_) (fun _ => ?_))
    | (intro _)
    | (exact trivial)
    | (omega)
    | (refine And.intro ?_ ?_)
end Two
