/-! ===== the class: a hand is loaded ===== -/
/-- the only finger that note m may have, or -9 -/
def onlV (M : Mm) (h x f m : Int) : Int := if m = x then f else M 26 (30 * h + nmo (fK M h) m 30)
/-- loaded up to note i -/
def LdP (h x f i : Int) (M M' : Mm) : Prop := (∀ m e, 0 ≤ m → m < i → 1 ≤ e → e ≤ 5 → M' 14 (5 * m + e - 1) = lnV M (kyF M h m) (onlV M h x f m) e) ∧ (∀ m e g, 0 ≤ m → m < i → m + 1 < cnt (fK M h) 30 → 1 ≤ e → e ≤ 5 → 1 ≤ g → g ≤ 5 → M' 15 (25 * m + 5 * e + g - 6) = lsV M h (kyF M h m) (kyF M h (m + 1)) e g)
def Ld (h x f : Int) (b : Nat) (M M' : Mm) : Prop := LdP h x f (cnt (fK M h) 30) M M' ∧ (M' 13 6 = cnt (fK M h) 30 ∧ M' 13 7 = M b 5 ∧ M' 13 8 = M b 6 ∧ M' 13 9 = M b 7) ∧ ∀ c j, ¬ (c = 13 ∧ 6 ≤ j ∧ j ≤ 9) → ¬ (c = 14 ∨ c = 15) → M' c j = M c j
section Rl2
variable {N : Nat} {M : Mm} {h : Int} {b k w n : Nat}
theorem HnI.fr {A : Mm} (hI : HnI M h b k w n) (hb : isHC h b k w n) (hf : ∀ c j, c ≤ 12 ∨ 24 < c → A c j = M c j) : HnI A h b k w n ∧ cnt (fK A h) 30 = cnt (fK M h) 30 ∧ kyF A h = kyF M h ∧ fK A h = fK M h := by
  have fe : fK A h = fK M h := by funext m; exact hf 25 _ (by omega)
  refine ⟨?_, by rw [fe], ?_, fe⟩
  · unfold HnI at *
    rw [fe, hf b 4 (by omega), hf b 0 (by omega), hf b 7 (by omega), hf b 5 (by omega), hf b 6 (by omega), hf 40 h (by omega), hf 41 h (by omega), hf 42 h (by omega)]
    refine ⟨fun m z1 z2 => ?_, hI.2.1, fun j z1 z2 => ?_, hI.2.2.2⟩
    · rw [hf k m (by omega), hf w m (by omega), hf 25 _ (by omega), hf 26 _ (by omega)]; exact hI.1 m z1 z2
    · rw [hf n j (by omega)]; exact hI.2.2.1 j z1 z2
  · funext m
    show A 25 (30 * h + nmo (fK A h) m 30) = M 25 (30 * h + nmo (fK M h) m 30)
    rw [fe, hf 25 _ (by omega)]
theorem t_load_loop {x f : Int} (hb : isHC h b k w n) (hH : HnI M h b k w n) (hK : KyI M) (hR : RuI M) (hx : R32 x) (hf : x ≠ -9 → isF f) (hfr : R32 f) (hx9 : x = -9 ∨ 0 ≤ x) {A : Mm} (hA : ∀ c j, ¬ (c = 13 ∧ 6 ≤ j ∧ j ≤ 9) → A c j = M c j) (hA6 : A 13 6 = cnt (fK M h) 30) : ∀ (l i : Nat), (i : Int) + l = cnt (fK M h) 30 → ∀ M1 : Mm, LdP h x f i M M1 → (∀ c j, ¬ (c = 14 ∨ c = 15) → M1 c j = A c j) → ∀ Φ : Option Vl → Ly → Mm → Prop, (∀ M', LdP h x f (cnt (fK M h) 30) M M' → (∀ c j, ¬ (c = 14 ∨ c = 15) → M' c j = A c j) → Φ none (S0 N) M') → AJ 4 0 0 mR_load Φ 0 0 35 [some (.inr 13), some (.inr b), some (.inl x), some (.inl f), some (.inl i)] [] (S0 N) M1 := by
  have cr := cnt_rng (fK M h) 30
  intro l
  induction l with
  | zero =>
    intro i hi M1 hL hF Φ kk
    have e6 : M1 13 6 = cnt (fK M h) 30 := by rw [hF 13 6 (by omega)]; exact hA6
    have hi' : (i : Int) = cnt (fK M h) 30 := by omega
    rw [hi'] at hL
    rcases hb with ⟨rfl, rfl, rfl, rfl, rfl⟩ | ⟨rfl, rfl, rfl, rfl, rfl⟩
    all_goals
      refine aR_load [] 30 (fun hM => ?_)
      refine ⟨by omega, ite_i (fun q => by omega) (fun q => ?_)⟩
      exact kk M1 hL hF
  | succ l ih =>
    intro i hi M1 hL hF Φ kk
    have e6 : M1 13 6 = cnt (fK M h) 30 := by rw [hF 13 6 (by omega)]; exact hA6
    have fr1 : ∀ c j, c ≤ 12 ∨ 24 < c → M1 c j = M c j := fun c j hc => by rw [hF c j (by omega)]; exact hA c j (by omega)
    have hR1 : RuI M1 := hR.fr (fun c hc => by funext j; exact fr1 c j (by omega))
    have h1 := hH.fr hb fr1
    have kr := kyF_rng (hc_h hb) hK (show 0 ≤ (i : Int) by omega) (show (i : Int) < cnt (fK M h) 30 by omega)
    have K1 := t_keyOf' (N := N) hb h1.1 (j := i) (by omega) (by rw [h1.2.1]; omega)
    have W1 := t_markOf' (N := N) hb h1.1 (j := i) (by omega) (by rw [h1.2.1]; omega)
    rw [h1.2.2.1] at K1
    rw [h1.2.2.2, fr1 26 _ (by omega)] at W1
    have ho : onlV M h x f i = -9 ∨ isF (onlV M h x f i) := by
      unfold onlV
      by_cases q : (i : Int) = x
      · rw [if_pos q]; right; exact hf (by omega)
      · rw [if_neg q]
        have := hK (30 * h + nmo (fK M h) i 30) (by have := hc_h hb; omega) (by have := hc_h hb; omega)
        omega
    have hne : lnV M1 = lnV M := by funext a c d; unfold lnV; rw [show M1 30 = M 30 by funext j; exact fr1 30 j (by omega)]
    have LN := t_loadNote (N := N) (M := M1) (m := i) (key := kyF M h i) (only := onlV M h x f i) hR1 (by omega) (by omega) kr.1 kr.2.1 ho
    rw [hne] at LN
    -- the memory behind the note's costs
    have fr2 : ∀ c j, c ≤ 12 ∨ 24 < c → (wr M1 14 (5 * (i : Int) - 1) (lnV M (kyF M h i) (onlV M h x f i)) 5) c j = M c j := fun c j hc => by rw [wr_ne (by omega)]; exact fr1 c j hc
    have e62 : (wr M1 14 (5 * (i : Int) - 1) (lnV M (kyF M h i) (onlV M h x f i)) 5) 13 6 = cnt (fK M h) 30 := by rw [wr_ne (by omega)]; exact e6
    have hR2 := hR.fr (A := wr M1 14 (5 * (i : Int) - 1) (lnV M (kyF M h i) (onlV M h x f i)) 5) (fun c hc => by funext j; exact fr2 c j (by omega))
    have h2 := hH.fr hb fr2
    have hse : ∀ A : Mm, (∀ c j, c ≤ 12 ∨ 24 < c → A c j = M c j) → lsV A = lsV M := fun A hA => by
      funext a1 a2 a3 a4 a5; unfold lsV
      rw [show A 30 = M 30 by funext j; exact hA 30 j (by omega), show A 27 = M 27 by funext j; exact hA 27 j (by omega), show A 28 = M 28 by funext j; exact hA 28 j (by omega), show A 29 = M 29 by funext j; exact hA 29 j (by omega)]
    have n14 : ∀ m e, 0 ≤ m → m < (i : Int) + 1 → 1 ≤ e → e ≤ 5 → (wr M1 14 (5 * (i : Int) - 1) (lnV M (kyF M h i) (onlV M h x f i)) 5) 14 (5 * m + e - 1) = lnV M (kyF M h m) (onlV M h x f m) e := fun m e z1 z2 z3 z4 => by
      by_cases hm : m = i
      · subst hm
        rw [show 5 * (i : Int) + e - 1 = (5 * (i : Int) - 1) + e by omega, wr_eq z3 z4]
      · rw [wr_ne (by omega)]; exact hL.1 m e z1 (by omega) z3 z4
    generalize hw2 : wr M1 14 (5 * (i : Int) - 1) (lnV M (kyF M h i) (onlV M h x f i)) 5 = M2 at *
    have n15 : ∀ j, M2 15 j = M1 15 j := fun j => by rw [← hw2]; exact wr_ne (by omega)
    have fA2 : ∀ c j, ¬ (c = 14 ∨ c = 15) → M2 c j = A c j := fun c j hc => by rw [← hw2, wr_ne (by omega)]; exact hF c j hc
    have K2 := t_keyOf' (N := N) hb h2.1 (j := i) (by omega) (by rw [h2.2.1]; omega)
    rw [h2.2.2.1] at K2
    have Sd := t_side (N := N) (M := M2) (b := b) (hc_b hb)
    rw [h2.1.2.2.2.1] at Sd
    have last : ¬ (i : Int) + 1 < cnt (fK M h) 30 → AJ 4 0 0 mR_load Φ 0 0 35 [some (.inr 13), some (.inr b), some (.inl x), some (.inl f), some (.inl ((i : Int) + 1))] [] (S0 N) M2 := fun q => by
      have := ih (i + 1) (by omega) M2 ⟨fun m e z1 z2 z3 z4 => n14 m e z1 (by omega) z3 z4, fun m e g z1 z2 z3 z4 z5 z6 z7 => by rw [n15]; exact hL.2 m e g z1 (by omega) z3 z4 z5 z6 z7⟩ fA2 Φ kk
      rw [show ((i + 1 : Nat) : Int) = (i : Int) + 1 by omega] at this
      exact this
    have tail : AJ 4 0 0 mR_load Φ 0 0 72 [some (.inr 13), some (.inr b), some (.inl x), some (.inl f), some (.inl i)] [] (S0 N) M2 := by
      by_cases q : (i : Int) + 1 < cnt (fK M h) 30
      · have kr2 := kyF_rng (hc_h hb) hK (show 0 ≤ (i : Int) + 1 by omega) q
        have K3 := t_keyOf' (N := N) hb h2.1 (j := (i : Int) + 1) (by omega) (by rw [h2.2.1]; omega)
        rw [h2.2.2.1] at K3
        have LS := t_loadSteps (N := N) (M := M2) (m := i) (sd := if h = 0 then 1 else -1) (hand := h) (a := kyF M h i) (b := kyF M h ((i : Int) + 1)) hR2 (by rcases hc_h hb with rfl | rfl <;> simp) (by omega) (by omega) kr.1 kr.2.1 kr2.1 kr2.2.1
        have step : ∀ M3, LsP h (kyF M h i) (kyF M h ((i : Int) + 1)) i 5 M2 M3 → AJ 4 0 0 mR_load Φ 0 0 35 [some (.inr 13), some (.inr b), some (.inl x), some (.inl f), some (.inl ((i : Int) + 1))] [] (S0 N) M3 := fun M3 hS => by
          have := ih (i + 1) (by omega) M3 ⟨fun m e z1 z2 z3 z4 => by rw [hS.2 14 _ (by omega)]; exact n14 m e z1 (by omega) z3 z4, fun m e g z1 z2 z3 z4 z5 z6 z7 => by
            by_cases hm : m = i
            · subst hm
              rw [hS.1 e g z4 z5 z6 z7, hse M2 fr2]
            · rw [hS.2 15 _ (by omega), n15]; exact hL.2 m e g z1 (by omega) z3 z4 z5 z6 z7⟩ (fun c j hc => by rw [hS.2 c j (by omega)]; exact fA2 c j hc) Φ kk
          rw [show ((i + 1 : Nat) : Int) = (i : Int) + 1 by omega] at this
          exact this
        rcases hb with ⟨rfl, rfl, rfl, rfl, rfl⟩ | ⟨rfl, rfl, rfl, rfl, rfl⟩
        all_goals
          refine aR_load [35] 30 (fun hM => ?_)
          refine ⟨by omega, ite_i (fun _ => ?_) (fun q => by omega)⟩
          refine CL.pu Sd (Nat.le_of_ble_eq_true rfl) (CL.pu K2 (Nat.le_of_ble_eq_true rfl) (CL.pu K3 (Nat.le_of_ble_eq_true rfl) ?_))
          refine ⟨3, _, (Nat.le_of_ble_eq_true rfl), LS, ?_⟩
          rintro r S' M3 ⟨rfl, rfl, hS⟩ hM3
          exact step M3 hS
      · have lt := last q
        rcases hb with ⟨rfl, rfl, rfl, rfl, rfl⟩ | ⟨rfl, rfl, rfl, rfl, rfl⟩
        all_goals
          refine aR_load [35] 30 (fun hM => ?_)
          refine ⟨by omega, ite_i (fun q => by omega) (fun _ => ?_)⟩
          exact lt
    by_cases q : (i : Int) = x
    · have eo : onlV M h x f i = f := by unfold onlV; rw [if_pos q]
      rw [eo] at LN
      rcases hb with ⟨rfl, rfl, rfl, rfl, rfl⟩ | ⟨rfl, rfl, rfl, rfl, rfl⟩
      all_goals
        refine aR_load [72] 30 (fun hM => ?_)
        refine ⟨by omega, ite_i (fun _ => ?_) (fun q => by omega)⟩
        refine CL.pu K1 (Nat.le_of_ble_eq_true rfl) ?_
        refine ⟨⟨by omega, hx⟩, ite_i (fun _ => ?_) (fun z => absurd q z)⟩
        refine CL.vo LN (Nat.le_of_ble_eq_true rfl) (fun hM2 => ?_)
        exact tail
    · have eo : onlV M h x f i = M 26 (30 * h + nmo (fK M h) i 30) := by unfold onlV; rw [if_neg q]
      rw [eo] at LN
      rcases hb with ⟨rfl, rfl, rfl, rfl, rfl⟩ | ⟨rfl, rfl, rfl, rfl, rfl⟩
      all_goals
        refine aR_load [72] 30 (fun hM => ?_)
        refine ⟨by omega, ite_i (fun _ => ?_) (fun q => by omega)⟩
        refine CL.pu K1 (Nat.le_of_ble_eq_true rfl) ?_
        refine ⟨⟨by omega, hx⟩, ite_i (fun z => absurd z q) (fun _ => ?_)⟩
        refine CL.pu W1 (Nat.le_of_ble_eq_true rfl) (CL.vo LN (Nat.le_of_ble_eq_true rfl) (fun hM2 => ?_))
        exact tail
theorem t_load {x f : Int} (hb : isHC h b k w n) (hH : HnI M h b k w n) (hK : KyI M) (hR : RuI M) (hx : R32 x) (hf : x ≠ -9 → isF f) (hfr : R32 f) (hx9 : x = -9 ∨ 0 ≤ x) : Ret 4 0 0 mR_load [.inr 13, .inr b, .inl x, .inl f] (S0 N) M (fun r S' M' => r = none ∧ S' = S0 N ∧ Ld h x f b M M') := by
  have cr := cnt_rng (fK M h) 30
  have C := t_noteCount' (N := N) hb hH
  have f7 : ∀ (v : Int) (j : Int), (mset M 13 6 v) b j = M b j := fun v j => mset_ne (by omega)
  have L := t_load_loop (N := N) (x := x) (f := f) hb hH hK hR hx hf hfr hx9 (A := mset (mset (mset (mset M 13 6 (cnt (fK M h) 30)) 13 7 (M b 5)) 13 8 (M b 6)) 13 9 (M b 7)) (fun c j hc => by rw [mset_ne (by omega), mset_ne (by omega), mset_ne (by omega), mset_ne (by omega)]) (by rw [mset_ne (by omega), mset_ne (by omega), mset_ne (by omega), mset_eq]) (cnt (fK M h) 30).toNat 0 (by omega) _ ⟨fun m e z1 z2 => by omega, fun m e g z1 z2 => by omega⟩ (fun _ _ _ => rfl) (fun r S' M' => r = none ∧ S' = S0 N ∧ Ld h x f b M M') (fun M' hL hF => ⟨rfl, rfl, hL, ⟨by rw [hF 13 6 (by omega), mset_ne (by omega), mset_ne (by omega), mset_ne (by omega), mset_eq], by rw [hF 13 7 (by omega), mset_ne (by omega), mset_ne (by omega), mset_eq], by rw [hF 13 8 (by omega), mset_ne (by omega), mset_eq], by rw [hF 13 9 (by omega), mset_eq]⟩, fun c j h1 h2 => by rw [hF c j h2, mset_ne (by omega), mset_ne (by omega), mset_ne (by omega), mset_ne (by omega)]⟩)
  have F1 := t_firstTied (N := N) (M := mset M 13 6 (cnt (fK M h) 30)) (hc_b hb)
  rw [mset_ne (by omega)] at F1
  have F2 := t_secondTied (N := N) (M := mset (mset M 13 6 (cnt (fK M h) 30)) 13 7 (M b 5)) (hc_b hb)
  rw [mset_ne (by omega), mset_ne (by omega)] at F2
  have F3 := t_tiedLength (N := N) (M := mset (mset (mset M 13 6 (cnt (fK M h) 30)) 13 7 (M b 5)) 13 8 (M b 6)) (hc_b hb)
  rw [mset_ne (by omega), mset_ne (by omega), mset_ne (by omega)] at F3
  rcases hb with ⟨rfl, rfl, rfl, rfl, rfl⟩ | ⟨rfl, rfl, rfl, rfl, rfl⟩
  all_goals
    refine eR_load [35] 40 (Nat.le_of_ble_eq_true rfl) (fun hM => ?_)
    refine CL.pu C (Nat.le_of_ble_eq_true rfl) ⟨⟨by omega, trivial⟩, ?_⟩
    refine CL.pu F1 (Nat.le_of_ble_eq_true rfl) ⟨⟨hM _ _, trivial⟩, ?_⟩
    refine CL.pu F2 (Nat.le_of_ble_eq_true rfl) ⟨⟨hM _ _, trivial⟩, ?_⟩
    refine CL.pu F3 (Nat.le_of_ble_eq_true rfl) ⟨⟨hM _ _, trivial⟩, ?_⟩
    exact L
end Rl2
