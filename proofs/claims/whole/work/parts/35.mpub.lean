/-! ===== the reference's questions: best, finger, would, tied ===== -/
theorem FrM.a {M M' : Mm} (h : FrM M M') : FrA M M' := fun c j z => h c j (by omega)
theorem FrA.trans {A B C : Mm} (h1 : FrA A B) (h2 : FrA B C) : FrA A C := fun c j z => (h2 c j z).trans (h1 c j z)
theorem MI.fra {M M' : Mm} (h : MI M) (hF : FrA M M') : MI M' := h.ce hF.ce ⟨by funext j; exact hF _ j (by omega), by funext j; exact hF _ j (by omega)⟩
theorem ChI.fr {M M' : Mm} (h : ChI M) (hI : MI M) (hF : FrM M M') : ChI M' := by
  have hc := hF.ce
  obtain ⟨c0, c1⟩ := h
  unfold ChI
  rw [hF 24 18 (by omega), hF 24 19 (by omega)]
  refine ⟨?_, ?_⟩
  · rcases c0 with z | ⟨z, k⟩
    · exact Or.inl z
    · exact Or.inr ⟨z, k.ce hc (Or.inl rfl) hI (hF 38 _ (by omega)) (fun _ _ _ => hF 39 _ (by omega))⟩
  · rcases c1 with z | ⟨z, k⟩
    · exact Or.inl z
    · exact Or.inr ⟨z, k.ce hc (Or.inr rfl) hI (hF 38 _ (by omega)) (fun _ _ _ => hF 39 _ (by omega))⟩
/-- asked: the scratch may have changed, no more -/
def Ak (M M' : Mm) : Prop := FrA M M' ∧ ChI M'
section Pub
variable {N : Nat} {M : Mm} {h : Int}
theorem bst_rng (hh : h = 0 ∨ h = 1) (hI : MI M) : bst M h = -9 ∨ (0 ≤ bst M h ∧ bst M h < 1000000) := by
  have hL0 := LM_ok hh hI.1 hI.2.1
  have ht0 := LM_tie hh hI.2.2
  unfold bst lrV
  split
  · right; omega
  · rename_i hn0
    have l3 := hL0.2.2.1
    have := tot_rng ht0 hL0 (by omega)
    split <;> omega
def bestV (M : Mm) (h : Int) : Int := if h = 0 ∨ h = 1 then bst M h else -1
theorem z_best (hr : R32 h) (hI : MI M) (hC : ChI M) : Ret 11 0 0 mM_best [.inr 24, .inl h] (S0 N) M (fun r S' M' => r = some (.inl (bestV M h)) ∧ S' = S0 N ∧ Ak M M') := by
  refine eM_best [] 30 (Nat.le_of_ble_eq_true rfl) (fun hM => ?_)
  refine CL.bl (z_isHand hr) (Nat.le_of_ble_eq_true rfl) (fun q => ?_) (fun q => ?_)
  · refine ⟨R32_1, ?_⟩
    refine ⟨10, _, (Nat.le_of_ble_eq_true rfl), z_findHand q hI hC, ?_⟩
    rintro r S' M' ⟨rfl, rfl, hF, hC', hk, hj⟩ hM'
    have e : bst M' h = bst M h := ce_bst hF.ce q hI
    refine ⟨by omega, ?_, rfl, hF, hC'⟩
    unfold bestV
    rw [if_pos q, hk.1, e]
  · refine ⟨R32_0, ?_, rfl, fun _ _ _ => rfl, hC⟩
    unfold bestV
    rw [if_neg q]
/-- what finger answers: the best row's finger -/
def FgV (M M' : Mm) (h k v : Int) : Prop := if (h = 0 ∨ h = 1) ∧ 0 ≤ k ∧ k < cnt (fK M h) 30 then (if bst M h = -9 then v = -9 else ∃ p : Int → Int, (∀ i, 0 ≤ i → i ≤ cnt (fK M h) 30 - 1 → 1 ≤ p i ∧ p i ≤ 5) ∧ BR (LM M h) p ∧ v = p k) else v = -1
theorem z_finger {k : Int} (hr : R32 h) (hrk : R32 k) (hI : MI M) (hC : ChI M) : Ret 11 0 0 mM_finger [.inr 24, .inl h, .inl k] (S0 N) M (fun r S' M' => (∃ v, r = some (.inl v) ∧ FgV M M' h k v) ∧ S' = S0 N ∧ Ak M M') := by
  have cr := cnt_rng (fK M h) 30
  refine eM_finger [] 40 (Nat.le_of_ble_eq_true rfl) (fun hM => ?_)
  refine CL.bl (z_isHand hr) (Nat.le_of_ble_eq_true rfl) (fun q => ?_) (fun q => ?_)
  · refine ⟨R32_1, ?_⟩
    refine CL.bl (z_isNote q hrk) (Nat.le_of_ble_eq_true rfl) (fun q2 => ?_) (fun q2 => ?_)
    · refine ⟨R32_1, ?_⟩
      refine ⟨10, _, (Nat.le_of_ble_eq_true rfl), z_findHand q hI hC, ?_⟩
      rintro r S' M' ⟨rfl, rfl, hF, hC', hk, hj⟩ hM'
      have e : bst M' h = bst M h := ce_bst hF.ce q hI
      have k1 := hk.1
      refine ⟨by omega, ⟨hM' _ _, by decide⟩, ite_i (fun q3 => ?_) (fun q3 => ?_)⟩
      · refine ⟨⟨_, rfl, ?_⟩, rfl, hF, hC'⟩
        unfold FgV
        rw [if_pos ⟨q, q2⟩, if_pos (by omega)]
      · refine ⟨by omega, ⟨_, rfl, ?_⟩, rfl, hF, hC'⟩
        unfold FgV
        rw [if_pos ⟨q, q2⟩, if_neg (by omega)]
        have hk2 := hk.2 (by omega)
        rw [ce_fK hF.ce] at hk2
        obtain ⟨a1, a2⟩ := hk2 (by omega)
        exact ⟨pf M' (30 * h), a1, de_BR (ce_LM hF.ce h).symm (LM_tie q (hI.fra hF).2.2) (by rw [LM_7, ce_fK hF.ce]; omega) (fun i z1 z2 => a1 i z1 (by rw [LM_7, ce_fK hF.ce] at z2; exact z2)) a2, rfl⟩
    · refine ⟨R32_0, ⟨_, rfl, ?_⟩, rfl, fun _ _ _ => rfl, hC⟩
      unfold FgV
      rw [if_neg (fun z => q2 z.2)]
  · refine ⟨R32_0, ⟨_, rfl, ?_⟩, rfl, fun _ _ _ => rfl, hC⟩
    unfold FgV
    rw [if_neg (fun z => q z.1)]
theorem de_s32 {A B : Mm} (d : DEq A B) (k v : Int) : DEq (mset A 32 k v) (mset B 32 k v) := by
  obtain ⟨e6, e7, e12, e10, ek, r7, r8, r9, r0⟩ := d
  have f : ∀ (X : Mm) (c : Nat), c ≠ 32 → (mset X 32 k v) c = X c := fun X c hc => by funext j; exact mset_ne (by omega)
  unfold DEq
  rw [f A 24 (by omega), f B 24 (by omega), f A 31 (by omega), f B 31 (by omega), f A 27 (by omega), f B 27 (by omega), f A 28 (by omega), f B 28 (by omega), f A 29 (by omega), f B 29 (by omega), f A 30 (by omega), f B 30 (by omega)]
  refine ⟨e6, e7, e12, e10, fun i z1 z2 => ⟨(ek i z1 z2).1, ?_⟩, r7, r8, r9, r0⟩
  unfold mset
  split
  · rfl
  · exact (ek i z1 z2).2
theorem LOk.s32 {A : Mm} (h : LOk A) (k v : Int) : LOk (mset A 32 k v) := by
  have f : ∀ (c : Nat), c ≠ 32 → (mset A 32 k v) c = A c := fun c hc => by funext j; exact mset_ne (by omega)
  unfold LOk RuI at *
  rw [f 24 (by omega), f 31 (by omega), f 3 (by omega), f 4 (by omega), f 27 (by omega), f 28 (by omega), f 29 (by omega), f 30 (by omega)]
  exact h
theorem tie_s32 {A : Mm} (h : A 24 12 = 0 ∨ TOk A) (k v : Int) : (mset A 32 k v) 24 12 = 0 ∨ TOk (mset A 32 k v) := by
  have f : (mset A 32 k v) 24 = A 24 := by funext j; exact mset_ne (by omega)
  unfold TOk at *
  rw [f]; exact h
def wouldV (M : Mm) (h k f : Int) : Int := if (h = 0 ∨ h = 1) ∧ (0 ≤ k ∧ k < cnt (fK M h) 30) ∧ 1 ≤ f ∧ f ≤ 5 then lrV (mset (LM M h) 32 k (shlI 1 f)) else -1
theorem z_would {k f : Int} (hr : R32 h) (hrk : R32 k) (hrf : R32 f) (hI : MI M) (hC : ChI M) : Ret 11 0 0 mM_would [.inr 24, .inl h, .inl k, .inl f] (S0 N) M (fun r S' M' => r = some (.inl (wouldV M h k f)) ∧ S' = S0 N ∧ Ak M M') := by
  have cr := cnt_rng (fK M h) 30
  refine eM_would [] 40 (Nat.le_of_ble_eq_true rfl) (fun hM => ?_)
  refine CL.bl (z_isHand hr) (Nat.le_of_ble_eq_true rfl) (fun q => ?_) (fun q => ?_)
  · refine ⟨R32_1, ?_⟩
    refine CL.bl (z_isNote q hrk) (Nat.le_of_ble_eq_true rfl) (fun q2 => ?_) (fun q2 => ?_)
    · refine ⟨R32_1, ?_⟩
      refine CL.bl (z_isFinger hrf) (Nat.le_of_ble_eq_true rfl) (fun q3 => ?_) (fun q3 => ?_)
      · refine ⟨R32_1, ?_⟩
        obtain ⟨i1, i2, i3⟩ := id hI
        refine ⟨0, _, (Nat.le_of_ble_eq_true rfl), z_layNotes q i2, ?_⟩
        rintro r S' M1 ⟨rfl, rfl, hl⟩ hM1
        have hI1 : MI M1 := hI.fr (fun c j hs => hl.2.2.2 c j (by omega))
        refine CL.vo (z_layTie q hI1.2.2) (Nat.le_of_ble_eq_true rfl) (fun hM2 => ?_)
        obtain ⟨d1, d2⟩ := laid_de q hl
        generalize (mset (mset (mset M1 24 10 (M1 40 h)) 24 11 (M1 41 h)) 24 12 (if thd M1 h then M1 42 h else 0)) = M2 at d1 d2 hM2
        have hL0 := LM_ok q i1 i2
        have ht0 := LM_tie q i3
        have hL2 := hL0.de d1 (hI.fr d2).1
        have ht2 := tie_de d1 ht0
        refine ⟨⟨by decide, by omega, by omega, by omega, R32_toInt _⟩, ?_⟩
        refine ⟨8, _, (Nat.le_of_ble_eq_true rfl), z_leastRow (M0 := mset M2 32 k (shlI 1 f)) (fun c j _ => rfl) (tie_s32 ht2 _ _) (hL2.s32 _ _), ?_⟩
        rintro r S' M3 ⟨rfl, rfl, hA, hR⟩ hM3
        have hF : FrM M M3 := fun c j z => by rw [hA c j (by omega), mset_ne (by omega)]; exact d2 c j z
        refine ⟨?_, rfl, hF.a, hC.fr hI hF⟩
        unfold wouldV
        rw [if_pos ⟨q, q2, q3⟩, de_lrV (de_s32 d1 k (shlI 1 f)) (tie_s32 ht0 _ _) (hL0.s32 _ _).2.2.1]
      · refine ⟨R32_0, ?_, rfl, fun _ _ _ => rfl, hC⟩
        unfold wouldV
        rw [if_neg (fun z => q3 z.2.2)]
    · refine ⟨R32_0, ?_, rfl, fun _ _ _ => rfl, hC⟩
      unfold wouldV
      rw [if_neg (fun z => q2 z.2.1)]
  · refine ⟨R32_0, ?_, rfl, fun _ _ _ => rfl, hC⟩
    unfold wouldV
    rw [if_neg (fun z => q z.1)]
end Pub
