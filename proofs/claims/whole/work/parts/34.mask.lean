theorem DEq.trans {A B C : Mm} (h1 : DEq A B) (h2 : DEq B C) : DEq A C := by
  obtain ⟨e6, e7, e12, e10, ek, r7, r8, r9, r0⟩ := h1
  obtain ⟨f6, f7, f12, f10, fk, s7, s8, s9, s0⟩ := h2
  refine ⟨f6.trans e6, f7.trans e7, f12.trans e12, fun q => ?_, fun k q1 q2 => ?_, s7.trans r7, s8.trans r8, s9.trans r9, s0.trans r0⟩
  · have a := e10 q
    have b := f10 (by rw [e12]; exact q)
    exact ⟨b.1.trans a.1, b.2.trans a.2⟩
  · have a := ek k q1 q2
    have b := fk k q1 (by rw [e7]; exact q2)
    exact ⟨b.1.trans a.1, b.2.trans a.2⟩
theorem de_38 (M : Mm) (j v : Int) : DEq M (mset M 38 j v) := ⟨mset_ne (by omega), mset_ne (by omega), mset_ne (by omega), fun _ => ⟨mset_ne (by omega), mset_ne (by omega)⟩, fun k _ _ => ⟨mset_ne (by omega), mset_ne (by omega)⟩, by funext i; exact mset_ne (by omega), by funext i; exact mset_ne (by omega), by funext i; exact mset_ne (by omega), by funext i; exact mset_ne (by omega)⟩
theorem RT.m38 {M0 M : Mm} {j v : Int} (h : RT M0 M) (ht : M0 24 12 = 0 ∨ TOk M0) : RT (mset M0 38 j v) (mset M 38 j v) := by
  have d := de_38 M0 j v
  obtain ⟨h1, h2, h3⟩ := h
  refine ⟨fun c i hc => ?_, fun q => ?_, fun q k f q1 q2 q3 q4 => ?_⟩
  · unfold mset; split
    · rfl
    · exact h1 c i hc
  · rw [d.2.2.1] at q
    have hT : TOk M0 := by
      rcases ht with ht | ht
      · omega
      · exact ht
    obtain ⟨t1, t2, t3, t4⟩ := id hT
    obtain ⟨f1, f2, f3⟩ := h2 q
    have e := d.2.2.2.1 q
    unfold FT
    rw [e.1, e.2, d.2.2.1, d.2.1]
    refine ⟨fun k f q1 q2 q3 q4 => ?_, fun f q1 q2 => ?_, fun k f q1 q2 q3 q4 => ?_⟩
    · rw [mset_ne (by omega), de_rsT d (by omega) (by omega) q3 q4]; exact f1 k f q1 q2 q3 q4
    · rw [mset_ne (by omega), de_wtX d hT q1 q2]; exact f2 f q1 q2
    · rw [mset_ne (by omega), de_rsH d hT q1 (by omega) q3 q4]; exact f3 k f q1 q2 q3 q4
  · rw [d.2.2.1] at q
    rw [d.2.1] at q2
    rw [mset_ne (by omega), de_rsT d q1 q2 q3 q4]; exact h3 q k f q1 q2 q3 q4
theorem CE.trans' {A B C : Mm} (h1 : CE A B) (h2 : CE B C) : CE A C := ⟨h2.1.trans h1.1, h2.2.1.trans h1.2.1, h2.2.2.1.trans h1.2.2.1, h2.2.2.2.1.trans h1.2.2.2.1, h2.2.2.2.2.1.trans h1.2.2.2.2.1, h2.2.2.2.2.2.1.trans h1.2.2.2.2.2.1, h2.2.2.2.2.2.2.1.trans h1.2.2.2.2.2.2.1, h2.2.2.2.2.2.2.2.1.trans h1.2.2.2.2.2.2.2.1, h2.2.2.2.2.2.2.2.2.trans h1.2.2.2.2.2.2.2.2⟩
section Ask
variable {N : Nat} {M : Mm}
/-- the second half of findHand: from what is laid aside on -/
theorem z_fh_tail {h : Int} (hh : h = 0 ∨ h = 1) (hI : MI M) {Φ : Option Vl → Ly → Mm → Prop} (kk : ∀ M', (∀ c j, ¬ scM c j → ¬ (c = 38 ∧ j = h) → ¬ (c = 39 ∧ 30 * h ≤ j ∧ j < 30 * h + 30) → M' c j = M c j) → Kp M' h → Φ none (S0 N) M') :
    AJ 10 0 0 mM_findHand Φ 0 0 63 [some (.inr 24), some (.inl h)] [] (S0 N) M := by
  have cr := cnt_rng (fK M h) 30
  have hL0 := LM_ok hh hI.1 hI.2.1
  have ht0 := LM_tie hh hI.2.2
  refine aM_findHand [] 40 (fun hM => ?_)
  refine ⟨9, _, (Nat.le_of_ble_eq_true rfl), z_leastOfHand hh hI, ?_⟩
  rintro r S' M3 ⟨rfl, rfl, hF, M2, d1, d2, hA, hR⟩ hM3
  have hI2 := hI.fr d2
  have hL2 := hL0.de d1 hI2.1
  have ht2 := tie_de d1 ht0
  have e7 : M2 24 7 = cnt (fK M h) 30 := by rw [d1.2.1, LM_7]
  have hb : bst M h = -9 ∨ (0 ≤ bst M h ∧ bst M h < 1000000) := by
    unfold bst lrV
    split
    · right; omega
    · rename_i hn0
      have l3 := hL0.2.2.1
      have := tot_rng ht0 hL0 (by omega)
      split <;> omega
  have f7 : (mset M3 38 h (bst M h)) 24 7 = cnt (fK M h) 30 := by rw [mset_ne (by omega), hA 24 7 (by omega)]; exact e7
  have fr : ∀ c j, ¬ scM c j → ¬ (c = 38 ∧ j = h) → (mset M3 38 h (bst M h)) c j = M c j := fun c j q1 q2 => by rw [mset_ne (by omega)]; exact hF c j q1
  have cee : CE M (mset M3 38 h (bst M h)) := ⟨by funext j; exact fr _ j (by omega) (by omega), by funext j; exact fr _ j (by omega) (by omega), by funext j; exact fr _ j (by omega) (by omega), by funext j; exact fr _ j (by omega) (by omega), by funext j; exact fr _ j (by omega) (by omega), by funext j; exact fr _ j (by omega) (by omega), by funext j; exact fr _ j (by omega) (by omega), by funext j; exact fr _ j (by omega) (by omega), by funext j; exact fr _ j (by omega) (by omega)⟩
  have eb := ce_bst cee hh hI
  refine ⟨⟨by decide, by omega, by omega, by omega, by omega⟩, by omega, ?_⟩
  rw [mset_eq]
  refine ⟨by omega, ite_i (fun q => ?_) (fun q => ?_)⟩
  · exact kk _ (fun c j q1 q2 q3 => fr c j q1 q2) ⟨by rw [mset_eq, eb], fun z => absurd (by rw [eb]; exact q) z⟩
  · refine ⟨by omega, ite_i (fun q2 => ?_) (fun q2 => ?_)⟩
    · have hn : 0 < M2 24 7 := by omega
      have hlt : tot M2 < 1000000 := by
        have e : bst M h = lrV M2 := (de_lrV d1 ht0 hL0.2.2.1).symm
        rw [e] at q
        unfold lrV at q
        rw [if_neg (by omega)] at q
        split at q
        · assumption
        · exact absurd rfl q
      have d38 := de_38 M2 h (bst M h)
      have hL3 : LOk (mset M2 38 h (bst M h)) := hL2.de d38 (by
        have := hI2.1
        unfold RuI at *
        rw [show (mset M2 38 h (bst M h)) 3 = M2 3 by funext i; exact mset_ne (by omega), show (mset M2 38 h (bst M h)) 4 = M2 4 by funext i; exact mset_ne (by omega), d38.2.2.2.2.2.1, d38.2.2.2.2.2.2.1, d38.2.2.2.2.2.2.2.1, d38.2.2.2.2.2.2.2.2]
        exact this)
      have ht3 := tie_de d38 ht2
      have e73 : (mset M2 38 h (bst M h)) 24 7 = cnt (fK M h) 30 := by rw [d38.2.1, e7]
      have hlt3 : tot (mset M2 38 h (bst M h)) < 1000000 := by
        have e := de_lrV d38 ht2 hL2.2.2.1
        unfold lrV at e
        rw [d38.2.1, if_neg (show ¬ M2 24 7 = 0 by omega), if_pos hlt] at e
        split at e
        · assumption
        · have := tot_rng ht2 hL2 hn; omega
      refine ⟨8, _, (Nat.le_of_ble_eq_true rfl), z_findFingers ((hR hn).m38 ht2) ht3 hL3 (by rw [d38.2.1]; exact hn) (a := 30 * h) (by omega) hlt3, ?_⟩
      rintro r S' M4 ⟨rfl, rfl, g1, g2, g3⟩ hM4
      rw [e73] at g1 g2
      have fr4 : ∀ c j, ¬ scM c j → ¬ (c = 38 ∧ j = h) → ¬ (c = 39 ∧ 30 * h ≤ j ∧ j < 30 * h + 30) → M4 c j = M c j := fun c j q1 q2 q3 => by rw [g1 c j (by omega) (by omega)]; exact fr c j q1 q2
      have ce4 : CE M M4 := ⟨by funext j; exact fr4 _ j (by omega) (by omega) (by omega), by funext j; exact fr4 _ j (by omega) (by omega) (by omega), by funext j; exact fr4 _ j (by omega) (by omega) (by omega), by funext j; exact fr4 _ j (by omega) (by omega) (by omega), by funext j; exact fr4 _ j (by omega) (by omega) (by omega), by funext j; exact fr4 _ j (by omega) (by omega) (by omega), by funext j; exact fr4 _ j (by omega) (by omega) (by omega), by funext j; exact fr4 _ j (by omega) (by omega) (by omega), by funext j; exact fr4 _ j (by omega) (by omega) (by omega)⟩
      have eb4 := ce_bst ce4 hh hI
      refine kk M4 fr4 ⟨?_, fun _ _ => ⟨fun k z1 z2 => ?_, ?_⟩⟩
      · rw [g1 38 h (by omega) (by omega), mset_eq, eb4]
      · rw [ce_fK ce4] at z2; exact g2 k z1 z2
      · have dd : DEq (mset M2 38 h (bst M h)) (LM M4 h) := (d38.symm.trans d1.symm).trans (ce_LM ce4 h)
        exact de_BR dd ht3 (by rw [d38.2.1]; exact hn) (fun k z1 z2 => g2 k z1 (by rw [e73] at z2; exact z2)) g3
    · refine kk _ (fun c j q1 q2 q3 => fr c j q1 q2) ⟨by rw [mset_eq, eb], fun z1 z2 => ?_⟩
      rw [ce_fK cee] at z2
      omega
theorem z_fh_tail2 {h a b : Int} (hI : MI M) (hC : ChI M) (hab : (h = 0 ∧ a = 1 ∧ b = M 24 19) ∨ (h = 1 ∧ a = M 24 18 ∧ b = 1)) :
    AJ 10 0 0 mM_findHand (fun r S' M' => r = none ∧ S' = S0 N ∧ FrA M M' ∧ ChI M' ∧ Kp M' h ∧ ∀ j, j ≠ h → M' 38 j = M 38 j) 0 0 63 [some (.inr 24), some (.inl h)] [] (S0 N) (mset (mset M 24 18 a) 24 19 b) := by
  obtain ⟨c0, c1⟩ := id hC
  have hh : h = 0 ∨ h = 1 := by omega
  have f1 : ∀ c j, ¬ (c = 24 ∧ (j = 18 ∨ j = 19)) → (mset (mset M 24 18 a) 24 19 b) c j = M c j := fun c j z => by rw [mset_ne (by omega), mset_ne (by omega)]
  have hc1 : CE M (mset (mset M 24 18 a) 24 19 b) := ⟨by funext j; exact f1 _ j (by omega), by funext j; exact f1 _ j (by omega), by funext j; exact f1 _ j (by omega), by funext j; exact f1 _ j (by omega), by funext j; exact f1 _ j (by omega), by funext j; exact f1 _ j (by omega), by funext j; exact f1 _ j (by omega), by funext j; exact f1 _ j (by omega), by funext j; exact f1 _ j (by omega)⟩
  have hI1 := hI.ce hc1 ⟨by funext j; exact f1 _ j (by omega), by funext j; exact f1 _ j (by omega)⟩
  refine z_fh_tail hh hI1 (fun M' fr kp => ?_)
  have hc2 : CE M M' := hc1.trans' ⟨by funext j; exact fr _ j (by omega) (by omega) (by omega), by funext j; exact fr _ j (by omega) (by omega) (by omega), by funext j; exact fr _ j (by omega) (by omega) (by omega), by funext j; exact fr _ j (by omega) (by omega) (by omega), by funext j; exact fr _ j (by omega) (by omega) (by omega), by funext j; exact fr _ j (by omega) (by omega) (by omega), by funext j; exact fr _ j (by omega) (by omega) (by omega), by funext j; exact fr _ j (by omega) (by omega) (by omega), by funext j; exact fr _ j (by omega) (by omega) (by omega)⟩
  have e8 : M' 24 18 = a := by rw [fr 24 18 (by omega) (by omega) (by omega), mset_ne (by omega), mset_eq]
  have e9 : M' 24 19 = b := by rw [fr 24 19 (by omega) (by omega) (by omega), mset_eq]
  refine ⟨rfl, rfl, fun c j z => ?_, ?_, kp, fun j hj => by rw [fr 38 j (by omega) (by omega) (by omega)]; exact f1 _ _ (by omega)⟩
  · rw [fr c j (by omega) (by omega) (by omega)]; exact f1 c j (by omega)
  · unfold ChI
    rw [e8, e9]
    rcases hab with ⟨rfl, rfl, rfl⟩ | ⟨rfl, rfl, rfl⟩
    · refine ⟨Or.inr ⟨rfl, kp⟩, ?_⟩
      rcases c1 with c1 | ⟨c1, k1⟩
      · exact Or.inl c1
      · refine Or.inr ⟨c1, k1.ce hc2 (Or.inr rfl) hI ?_ (fun k z1 z2 => ?_)⟩
        · rw [fr 38 1 (by omega) (by omega) (by omega)]; exact f1 _ _ (by omega)
        · rw [fr 39 _ (by omega) (by omega) (by omega)]; exact f1 _ _ (by omega)
    · refine ⟨?_, Or.inr ⟨rfl, kp⟩⟩
      rcases c0 with c1 | ⟨c1, k1⟩
      · exact Or.inl c1
      · refine Or.inr ⟨c1, k1.ce hc2 (Or.inl rfl) hI ?_ (fun k z1 z2 => ?_)⟩
        · rw [fr 38 0 (by omega) (by omega) (by omega)]; exact f1 _ _ (by omega)
        · rw [fr 39 _ (by omega) (by omega) (by omega)]; exact f1 _ _ (by omega)
theorem z_findHand {h : Int} (hh : h = 0 ∨ h = 1) (hI : MI M) (hC : ChI M) : Ret 10 0 0 mM_findHand [.inr 24, .inl h] (S0 N) M (fun r S' M' => r = none ∧ S' = S0 N ∧ FrA M M' ∧ ChI M' ∧ Kp M' h ∧ ∀ j, j ≠ h → M' 38 j = M 38 j) := by
  obtain ⟨c0, c1⟩ := id hC
  have r8 : 0 ≤ M 24 18 ∧ M 24 18 ≤ 1 := by omega
  have r9 : 0 ≤ M 24 19 ∧ M 24 19 ≤ 1 := by omega
  rcases hh with rfl | rfl
  · refine eM_findHand [63] 60 (Nat.le_of_ble_eq_true rfl) (fun hM => ?_)
    refine ⟨by omega, ?_⟩
    refine ⟨by omega, ite_i (fun q => ?_) (fun q => ?_)⟩
    · refine ⟨by omega, ite_i (fun _ => ?_) (fun q2 => absurd q q2)⟩
      refine ⟨by omega, ?_⟩
      have e9 : mset M 24 18 1 24 19 = M 24 19 := mset_ne (by omega)
      refine ⟨⟨by omega, Or.inr rfl, trivial⟩, ?_⟩
      refine ⟨by omega, ite_i (fun q2 => ?_) (fun q2 => ?_)⟩
      · refine ⟨⟨by omega, by omega⟩, ?_⟩
        refine ⟨⟨by omega, Or.inl rfl, trivial⟩, ?_⟩
        exact z_fh_tail2 hI hC (Or.inl ⟨rfl, rfl, by omega⟩)
      · refine ⟨⟨by omega, Or.inr rfl, trivial⟩, ?_⟩
        exact z_fh_tail2 hI hC (Or.inl ⟨rfl, rfl, by omega⟩)
    · refine ⟨rfl, rfl, fun _ _ _ => rfl, hC, ?_, fun _ _ => rfl⟩
      rcases c0 with z | z
      · exact absurd z q
      · exact z.2
  · refine eM_findHand [63] 60 (Nat.le_of_ble_eq_true rfl) (fun hM => ?_)
    refine ⟨by omega, ?_⟩
    refine ⟨by omega, ite_i (fun q => ?_) (fun q => ?_)⟩
    · refine ⟨by omega, ite_i (fun q2 => ?_) (fun q2 => ?_)⟩
      · refine ⟨by omega, ?_⟩
        have e9 : mset M 24 18 0 24 19 = M 24 19 := mset_ne (by omega)
        refine ⟨⟨by omega, Or.inl rfl, trivial⟩, ?_⟩
        refine ⟨by omega, ite_i (fun _ => ?_) (fun q2 => absurd (e9.trans q) q2)⟩
        refine ⟨⟨by omega, by omega⟩, ?_⟩
        refine ⟨⟨by omega, Or.inr rfl, trivial⟩, ?_⟩
        exact z_fh_tail2 hI hC (Or.inr ⟨rfl, by omega, rfl⟩)
      · have e9 : mset M 24 18 1 24 19 = M 24 19 := mset_ne (by omega)
        refine ⟨⟨by omega, Or.inr rfl, trivial⟩, ?_⟩
        refine ⟨by omega, ite_i (fun _ => ?_) (fun q2 => absurd (e9.trans q) q2)⟩
        refine ⟨⟨by omega, by omega⟩, ?_⟩
        refine ⟨⟨by omega, Or.inr rfl, trivial⟩, ?_⟩
        exact z_fh_tail2 hI hC (Or.inr ⟨rfl, by omega, rfl⟩)
    · refine ⟨rfl, rfl, fun _ _ _ => rfl, hC, ?_, fun _ _ => rfl⟩
      rcases c1 with z | z
      · exact absurd z q
      · exact z.2
end Ask
