/-! ===== the reference: swap, help, many ===== -/
theorem ce_lay {M M' : Mm} (h : CE M M') (j k : Int) : CE (lay1 M j k) (lay1 M' j k) := by
  obtain ⟨a1, a2, a3, a4, a5, a6, a7, a8, a9⟩ := h
  have o : ∀ c : Nat, c ≠ 25 ∧ c ≠ 26 → M' c = M c → lay1 M' j k c = lay1 M j k c := fun c hc e => by funext i; rw [lay_o _ hc, lay_o _ hc, e]
  refine ⟨?_, ?_, o _ (by omega) a3, o _ (by omega) a4, o _ (by omega) a5, o _ (by omega) a6, o _ (by omega) a7, o _ (by omega) a8, o _ (by omega) a9⟩
  · funext i; rw [lay_25, lay_25, a1]
  · funext i; rw [lay_26, lay_26, a1, a2]
theorem ce_sw {M M' : Mm} (h : CE M M') (m : Int) : CE (swE M m) (swE M' m) := by
  have := ce_lay (ce_lay h m (M 25 (30 + m))) (30 + m) (M 25 m)
  unfold swE
  rw [h.1]; exact this
theorem ce_sum {M M' : Mm} (h : CE M M') (hI : MI M) : sumV M' = sumV M := by
  unfold sumV; rw [ce_bst h (Or.inl rfl) hI, ce_bst h (Or.inr rfl) hI]
theorem ce_chg (M : Mm) : CE M (chg M) ∧ (chg M 3 = M 3 ∧ chg M 4 = M 4) := by
  have f : ∀ c : Nat, c ≠ 24 → chg M c = M c := fun c hc => by funext j; unfold chg; rw [mset_ne (by omega), mset_ne (by omega)]
  exact ⟨⟨f _ (by omega), f _ (by omega), f _ (by omega), f _ (by omega), f _ (by omega), f _ (by omega), f _ (by omega), f _ (by omega), f _ (by omega)⟩, f _ (by omega), f _ (by omega)⟩
section Hp
variable {N : Nat} {M : Mm} {m : Int}
def swapV (M : Mm) (m : Int) : Int := if isM m then sumV (swE M m) else -1
theorem z_swap (hm : R32 m) (hI : MI M) : Ret 12 0 0 mM_swap [.inr 24, .inl m] (S0 N) M (fun r S' M' => r = some (.inl (swapV M m)) ∧ S' = S0 N ∧ (isM m → Ak (chg (swE M m)) M') ∧ (¬ isM m → M' = M)) := by
  refine eM_swap [] 30 (Nat.le_of_ble_eq_true rfl) (fun hM => ?_)
  refine CL.bl (z_isMoment hm) (Nat.le_of_ble_eq_true rfl) (fun q => ?_) (fun q => ?_)
  · refine ⟨R32_1, CL.vo (z_swaps q.1 q.2) (Nat.le_of_ble_eq_true rfl) (fun hM2 => ?_)⟩
    refine CL.vo z_isChanged (Nat.le_of_ble_eq_true rfl) (fun hM3 => ?_)
    have hI1 := hI.sw q.1 q.2
    have cc := ce_chg (swE M m)
    have hI2 : MI (chg (swE M m)) := hI1.ce cc.1 cc.2
    refine ⟨11, _, (Nat.le_of_ble_eq_true rfl), z_sum (M := chg (swE M m)) hI2 (ChI.chg _), ?_⟩
    rintro r S' M' ⟨rfl, rfl, ak⟩ hM'
    refine ⟨?_, rfl, fun _ => ak, fun z => absurd q z⟩
    unfold swapV
    rw [if_pos q, ce_sum cc.1 hI1]
  · exact ⟨R32_0, by unfold swapV; rw [if_neg q], rfl, fun z => absurd z q, fun _ => rfl⟩
theorem z_sumBehind (h0 : 0 ≤ m) (h1 : m < 30) (hI : MI M) : Ret 10 0 0 mM_sumBehind [.inr 24, .inl m] (S0 N) M (fun r S' M' => r = some (.inl (sumV (swE M m))) ∧ S' = S0 N ∧ FrM M M') := by
  have hI1 := hI.sw h0 h1
  have r0 := hI.2.1 m (by omega) (by omega)
  have r1 := hI.2.1 (30 + m) (by omega) (by omega)
  have b0 := bst_rng (Or.inl rfl) hI1
  have b1 := bst_rng (Or.inr rfl) hI1
  refine eM_sumBehind [] 60 (Nat.le_of_ble_eq_true rfl) (fun hM => ?_)
  refine ⟨by omega, by omega, CL.vo (z_swaps h0 h1) (Nat.le_of_ble_eq_true rfl) (fun hM2 => ?_)⟩
  refine ⟨9, _, (Nat.le_of_ble_eq_true rfl), z_leastOfHand (Or.inl rfl) hI1, ?_⟩
  rintro r S' M2 ⟨rfl, rfl, hF2, _⟩ hM2'
  refine ⟨9, _, (Nat.le_of_ble_eq_true rfl), z_leastOfHand (Or.inr rfl) (hI1.fr hF2), ?_⟩
  rintro r S' M3 ⟨rfl, rfl, hF3, _⟩ hM3'
  have e1 : bst M2 1 = bst (swE M m) 1 := ce_bst hF2.ce (Or.inr rfl) hI1
  rw [e1]
  refine CL.pu (z_together b0 b1) (Nat.le_of_ble_eq_true rfl) ?_
  refine CL.vo (z_swaps h0 h1) (Nat.le_of_ble_eq_true rfl) (fun hM4 => ?_)
  refine ⟨⟨by decide, by omega, by omega, by omega, by omega⟩, ⟨by decide, by omega, by omega, by omega, by omega⟩, rfl, rfl, fun c j hs => ?_⟩
  have g : ∀ i, ¬ scM c i → M3 c i = (swE M m) c i := fun i z => by rw [hF3 c i z, hF2 c i z]
  by_cases c6 : c = 26
  · subst c6
    by_cases j1 : j = 30 + m
    · subst j1; exact mset_eq ..
    · rw [mset_ne (by omega)]
      by_cases j0 : j = m
      · subst j0; exact mset_eq ..
      · rw [mset_ne (by omega), sw_26 _ ⟨j0, j1⟩, g _ (by omega), sw_26 _ ⟨j0, j1⟩]
  · rw [mset_ne (by omega), mset_ne (by omega)]
    by_cases c5 : c = 25
    · subst c5
      rw [sw_25 h0, g m (by omega), g (30 + m) (by omega), g j (by omega), sw_25 h0, sw_25 h0, sw_25 h0]
      by_cases j1 : j = 30 + m
      · subst j1; rw [if_pos rfl, if_neg (by omega), if_pos rfl]
      · rw [if_neg j1]
        by_cases j0 : j = m
        · subst j0; rw [if_pos rfl, if_pos rfl]
        · rw [if_neg j0, if_neg j1, if_neg j0]
    · rw [sw_o _ ⟨c5, c6⟩, g _ hs, sw_o _ ⟨c5, c6⟩]
theorem sumV_rng (hI : MI M) : sumV M = -9 ∨ (0 ≤ sumV M ∧ sumV M < 2000000) := by
  have b0 := bst_rng (Or.inl rfl) hI
  have b1 := bst_rng (Or.inr rfl) hI
  unfold sumV tgt
  split <;> omega
def hpV (M : Mm) : Int × Int := hpL (fun m => sumV (swE M m)) 30 0 (-9) (sumV M)
def helpV (M : Mm) (w : Int) : Int := if 0 ≤ w ∧ w ≤ 1 then (if w = 0 ∨ (hpV M).1 = -9 then (hpV M).1 else (hpV M).2) else -2
theorem z_help {w : Int} (hw : R32 w) (hI : MI M) (hC : ChI M) : Ret 11 0 0 mM_help [.inr 24, .inl w] (S0 N) M (fun r S' M' => r = some (.inl (helpV M w)) ∧ S' = S0 N ∧ Ak M M') := by
  refine eM_help [36] 40 (Nat.le_of_ble_eq_true rfl) (fun hM => ?_)
  refine CL.bl (z_within hw R32_0 R32_1) (Nat.le_of_ble_eq_true rfl) (fun q => ?_) (fun q => ?_)
  · refine ⟨R32_1, ?_⟩
    refine ⟨9, _, (Nat.le_of_ble_eq_true rfl), z_leastOfHand (Or.inl rfl) hI, ?_⟩
    rintro r S' M2 ⟨rfl, rfl, hF2, _⟩ hM2'
    refine ⟨9, _, (Nat.le_of_ble_eq_true rfl), z_leastOfHand (Or.inr rfl) (hI.fr hF2), ?_⟩
    rintro r S' M3 ⟨rfl, rfl, hF3, _⟩ hM3'
    have e1 : bst M2 1 = bst M 1 := ce_bst hF2.ce (Or.inr rfl) hI
    rw [e1]
    refine CL.pu (z_together (bst_rng (Or.inl rfl) hI) (bst_rng (Or.inr rfl) hI)) (Nat.le_of_ble_eq_true rfl) ?_
    have loop : ∀ (n : Nat) (i f b now : Int) (L6 : Option Vl) (M4 : Mm), 0 ≤ i → i + n = 30 → FrM M M4 → (f = -9 ∨ (0 ≤ f ∧ f < 30)) → (b = -9 ∨ (0 ≤ b ∧ b < 2000000)) → hpL (fun m => sumV (swE M m)) n i f b = hpV M → AJ 11 0 0 mM_help (fun r S' M' => r = some (.inl (helpV M w)) ∧ S' = S0 N ∧ Ak M M') 0 0 36 [some (.inr 24), some (.inl w), some (.inl now), some (.inl f), some (.inl b), some (.inl i), L6] [] (S0 N) M4 := by
      intro n
      induction n with
      | zero =>
        intro i f b now L6 M4 i0 hi hF hf hb e
        have e' : (f, b) = hpV M := e
        have ef : (hpV M).1 = f := by rw [← e']
        have eb : (hpV M).2 = b := by rw [← e']
        have ak : Ak M M4 := ⟨hF.a, hC.fr hI hF⟩
        refine aM_help [] 40 (fun hM => ?_)
        refine ⟨by omega, ite_i (fun q => by omega) (fun _ => ?_)⟩
        refine ⟨by omega, ite_i (fun q2 => ?_) (fun q2 => ?_)⟩
        · exact ⟨by unfold helpV; rw [if_pos q, if_pos (Or.inl q2), ef], rfl, ak⟩
        · refine ⟨by omega, ite_i (fun q3 => ?_) (fun q3 => ?_)⟩
          · exact ⟨by unfold helpV; rw [if_pos q, if_pos (Or.inr (by rw [ef]; exact q3)), ef], rfl, ak⟩
          · exact ⟨by unfold helpV; rw [if_pos q, if_neg (by rw [ef]; omega), eb], rfl, ak⟩
      | succ n ih =>
        intro i f b now L6 M4 i0 hi hF hf hb e
        have e : (if sumV (swE M i) ≠ -9 ∧ (b = -9 ∨ sumV (swE M i) < b) then hpL (fun m => sumV (swE M m)) n (i + 1) i (sumV (swE M i)) else hpL (fun m => sumV (swE M m)) n (i + 1) f b) = hpV M := e
        have hIs := hI.sw i0 (show i < 30 by omega)
        have sr := sumV_rng hIs
        have es : sumV (swE M4 i) = sumV (swE M i) := ce_sum (ce_sw hF.ce i) hIs
        refine aM_help [36] 40 (fun hM => ?_)
        refine ⟨by omega, ite_i (fun _ => ?_) (fun q => by omega)⟩
        refine ⟨10, _, (Nat.le_of_ble_eq_true rfl), z_sumBehind i0 (by omega) (hI.fr hF), ?_⟩
        rintro r S' M5 ⟨rfl, rfl, hF5⟩ hM5
        rw [es]
        have hF' : FrM M M5 := fun c j z => (hF5 c j z).trans (hF c j z)
        refine ⟨by omega, ite_i (fun q2 => ?_) (fun q2 => ?_)⟩
        · rw [if_neg (fun z => z.1 q2)] at e
          exact ih _ _ _ _ _ M5 (by omega) (by omega) hF' hf hb e
        · refine ⟨by omega, ite_i (fun q3 => ?_) (fun q3 => ?_)⟩
          · rw [if_pos ⟨q2, Or.inl q3⟩] at e
            exact ih _ _ _ _ _ M5 (by omega) (by omega) hF' (by omega) (by omega) e
          · refine ⟨by omega, ite_i (fun q4 => ?_) (fun q4 => ?_)⟩
            · rw [if_pos ⟨q2, Or.inr q4⟩] at e
              exact ih _ _ _ _ _ M5 (by omega) (by omega) hF' (by omega) (by omega) e
            · rw [if_neg (by omega)] at e
              exact ih _ _ _ _ _ M5 (by omega) (by omega) hF' hf hb e
    exact AJ.wk (loop 30 0 (-9) (sumV M) (sumV M) none M3 (by omega) (by omega) (fun c j z => (hF3 c j z).trans (hF2 c j z)) (Or.inl rfl) (sumV_rng hI) rfl) ⟨rfl, rfl, rfl, rfl, rfl, rfl, trivial⟩
  · exact ⟨R32_0, by unfold helpV; rw [if_neg q], rfl, fun _ _ _ => rfl, hC⟩
def manyV (M : Mm) (w : Int) : Int := if w = 0 ∨ w = 1 then cnt (fK M w) 30 else if w = 2 then ctE (fun j => M 26 j ≠ -9) 60 else if w = 3 then M 24 25 else if w = 4 then bi (thd M 0) + bi (thd M 1) else if w = 5 ∨ w = 6 then ctE (soM M (w - 5)) 30 else -2
theorem z_many {w : Int} (hw : R32 w) (hI : MI M) : Ret 2 0 0 mM_many [.inr 24, .inl w] (S0 N) M (Pu (S0 N) M (manyV M w)) := by
  have cr := cnt_rng (fK M w) 30
  refine eM_many [] 40 (Nat.le_of_ble_eq_true rfl) (fun hM => ?_)
  refine ⟨by omega, fun q => ?_, fun q => ?_, fun q => ?_, fun q => ?_, fun q => ?_, fun q => ?_, fun q => ?_, fun q => ?_, trivial⟩
  · exact pu_eq (by unfold manyV; rw [if_neg (by omega), if_neg (by omega), if_neg (by omega), if_neg (by omega), if_neg (by omega)])
  · refine CL.pu (z_notesOf (Or.inl q)) (Nat.le_of_ble_eq_true rfl) (pu_eq (by unfold manyV; rw [if_pos (Or.inl q)]))
  · refine CL.pu (z_notesOf (Or.inr q)) (Nat.le_of_ble_eq_true rfl) (pu_eq (by unfold manyV; rw [if_pos (Or.inr q)]))
  · refine CL.pu z_manyMarks (Nat.le_of_ble_eq_true rfl) (pu_eq (by unfold manyV; rw [if_neg (by omega), if_pos (by omega)]))
  · exact pu_eq (by unfold manyV; rw [if_neg (by omega), if_neg (by omega), if_pos (by omega)])
  · refine CL.bl (z_doesTieHold (Or.inl rfl) hI.2.2) (Nat.le_of_ble_eq_true rfl) (fun q1 => ?_) (fun q1 => ?_)
    · refine ⟨R32_1, CL.bl (z_doesTieHold (Or.inr rfl) hI.2.2) (Nat.le_of_ble_eq_true rfl) (fun q2 => ?_) (fun q2 => ?_)⟩
      · exact ⟨R32_1, pu_eq (by unfold manyV; rw [if_neg (by omega), if_neg (by omega), if_neg (by omega), if_pos (by omega), bi_t q1, bi_t q2])⟩
      · exact ⟨R32_0, pu_eq (by unfold manyV; rw [if_neg (by omega), if_neg (by omega), if_neg (by omega), if_pos (by omega), bi_t q1, bi_f q2])⟩
    · refine ⟨R32_0, CL.bl (z_doesTieHold (Or.inr rfl) hI.2.2) (Nat.le_of_ble_eq_true rfl) (fun q2 => ?_) (fun q2 => ?_)⟩
      · exact ⟨R32_1, pu_eq (by unfold manyV; rw [if_neg (by omega), if_neg (by omega), if_neg (by omega), if_pos (by omega), bi_f q1, bi_t q2])⟩
      · exact ⟨R32_0, pu_eq (by unfold manyV; rw [if_neg (by omega), if_neg (by omega), if_neg (by omega), if_pos (by omega), bi_f q1, bi_f q2])⟩
  · refine CL.pu (z_manyMoments (by omega) hI.2.1) (Nat.le_of_ble_eq_true rfl) (pu_eq (by unfold manyV; rw [if_neg (by omega), if_neg (by omega), if_neg (by omega), if_neg (by omega), if_pos (by omega)]))
  · refine CL.pu (z_manyMoments (by omega) hI.2.1) (Nat.le_of_ble_eq_true rfl) (pu_eq (by unfold manyV; rw [if_neg (by omega), if_neg (by omega), if_neg (by omega), if_neg (by omega), if_pos (by omega)]))
end Hp
