/-! ===== the class: least cost without a tie ===== -/
section Ru
variable {N : Nat} {M : Mm} {h : Int} {b k w n : Nat} {A : Mm}
theorem swp_bd : ∀ (n : Nat) (fr to : Int) (M : Mm), SwB M fr to → to + n = fr + 1 → ∀ m f, to ≤ m → m ≤ fr → 1 ≤ f → f ≤ 5 → 0 ≤ (swp n fr M) 16 (5 * m + f - 1) ∧ (swp n fr M) 16 (5 * m + f - 1) ≤ 1100000 := by
  intro n
  induction n with
  | zero => intro fr to M _ hn m f q1 q2; omega
  | succ n ih =>
    intro fr to M hB hn m f q1 q2 f1 f2
    have e : swp (n + 1) fr M = swp n (fr - 1) (sw1 M fr) := rfl
    rw [e]
    by_cases hm : m = fr
    · subst hm
      rw [(swp_spec n (m - 1) (sw1 M m)).2 16 _ (by omega), show 5 * m + f - 1 = (5 * m - 1) + f by omega]
      have e1 : (sw1 M m) 16 ((5 * m - 1) + f) = swV M m f := wr_eq f1 f2
      rw [e1]
      have a := hB.1 m f q1 (Int.le_refl _) f1 f2
      have c := cbV_rng hB rfl q1 f1 f2
      unfold swV
      omega
    · exact ih (fr - 1) to _ (hB.step (by omega)) (by omega) m f q1 (by omega) f1 f2
theorem ld_bd {x f : Int} (hL : Ld h x f b M A) (hR : RuI M) : (∀ m e, 0 ≤ m → m < cnt (fK M h) 30 → 1 ≤ e → e ≤ 5 → 0 ≤ A 14 (5 * m + e - 1) ∧ A 14 (5 * m + e - 1) ≤ 100000) ∧ ∀ m e g, 0 ≤ m → m + 1 < cnt (fK M h) 30 → 1 ≤ e → e ≤ 5 → 1 ≤ g → g ≤ 5 → 0 ≤ A 15 (25 * m + 5 * e + g - 6) ∧ A 15 (25 * m + 5 * e + g - 6) ≤ 100000 := by
  refine ⟨fun m e q1 q2 e1 e2 => ?_, fun m e g q1 q2 e1 e2 g1 g2 => ?_⟩
  · rw [hL.1.1 m e q1 q2 e1 e2]
    have := ncv_rng hR (kyF M h m) e
    unfold lnV
    split <;> omega
  · rw [hL.1.2 m e g q1 (by omega) q2 e1 e2 g1 g2]
    have := lsV_rng hR (hand := h) (a := kyF M h m) (b := kyF M h (m + 1)) e1 e2 g1 g2
    omega
theorem ld_swB {x f : Int} (hL : Ld h x f b M A) (hR : RuI M) {to : Int} (h0 : 0 ≤ to) : SwB A (cnt (fK M h) 30 - 1) to := by
  have bd := ld_bd hL hR
  have e6 := hL.2.1.1
  refine ⟨fun m f a b c d => ?_, fun m f g a b c d e u v => ?_, fun q => by omega⟩
  · have := bd.1 m f (by omega) (by omega) c d; omega
  · have := bd.2 m f g (by omega) (by omega) d e u v; omega
theorem ld_an {x f : Int} (hL : Ld h x f b M A) (hR : RuI M) (hf : x ≠ -9 → isF f) (hh : isH h) (hK : KyI M) {L : Mm} (hLo : ∀ c : Nat, c ≠ 24 → L c = LX M h x f c) (h6' : L 24 6 = h) (h7 : L 24 7 = cnt (fK M h) 30) (h12 : L 24 12 = 0) : anV (swp (cnt (fK M h) 30).toNat (cnt (fK M h) 30 - 1) A) = lrV L := by
  have cr := cnt_rng (fK M h) 30
  have eo : ∀ m e, okM L m e ↔ okM (LX M h x f) m e := fun m e => by unfold okM; rw [hLo 32 (by omega)]
  have en : ∀ m e, ncM L m e = ncM (LX M h x f) m e := fun m e => by unfold ncM; rw [hLo 30 (by omega), hLo 31 (by omega)]
  have es : ∀ m e g, stM L m e g = stM (LX M h x f) m e g := fun m e g => by
    unfold stM; rw [hLo 30 (by omega), hLo 31 (by omega), hLo 27 (by omega), hLo 28 (by omega), hLo 29 (by omega), h6', LX_o 24 (by omega), LM_6]
  refine an_plain h7 h12 hL.2.1.1 (by omega) (by omega) (fun q e e1 e2 => ?_) (fun m e g q1 q2 e1 e2 g1 g2 => ?_)
  · have := ld_note hL hR hf hh hK (m := 0) (e := e) (by omega) q e1 e2
    rw [en]
    by_cases q : okM (LX M h x f) 0 e
    · rw [if_pos q] at this; rw [if_pos ((eo 0 e).mpr q)]; exact this
    · rw [if_neg q] at this; rw [if_neg (fun z => q ((eo 0 e).mp z))]; exact this
  · have := ld_go hL hR hf hh hK q1 q2 e1 e2 g1 g2
    unfold goM at this ⊢
    rw [en, es]
    by_cases q : okM (LX M h x f) (m + 1) g
    · rw [if_pos q] at this; rw [if_pos ((eo (m + 1) g).mpr q)]; exact this
    · rw [if_neg q] at this; rw [if_neg (fun z => q ((eo (m + 1) g).mp z))]; exact this
/-- what Rows may change -/
def FrR (M M' : Mm) : Prop := ∀ c j, ¬ (13 ≤ c ∧ c ≤ 18) → M' c j = M c j
theorem swp_frR {x f : Int} (hL : Ld h x f b M A) (m : Nat) (fr : Int) : FrR M (swp m fr A) := fun c j hc => by
  rw [(swp_spec m fr A).2 c j (by omega)]; exact hL.2.2 c j (by omega) (by omega)
theorem t_plainRow {x f : Int} (hL : Ld h x f b M A) (hR : RuI M) : Ret 3 0 0 mR_sweep [.inr 13, .inl (A 13 6 - 1), .inl 0] (S0 N) A (Vo (S0 N) (swp (cnt (fK M h) 30).toNat (cnt (fK M h) 30 - 1) A)) ∧ Ret 1 0 0 mR_answerOfTable [.inr 13] (S0 N) (swp (cnt (fK M h) 30).toNat (cnt (fK M h) 30 - 1) A) (Pu (S0 N) (swp (cnt (fK M h) 30).toNat (cnt (fK M h) 30 - 1) A) (anV (swp (cnt (fK M h) 30).toNat (cnt (fK M h) 30 - 1) A))) := by
  have cr := cnt_rng (fK M h) 30
  have e6 := hL.2.1.1
  have sb := ld_swB hL hR (to := 0) (by omega)
  refine ⟨?_, t_answerOfTable (fun q e e1 e2 => ?_)⟩
  · have S := t_sweep (N := N) (M := A) (fr := cnt (fK M h) 30 - 1) (to := 0) (by omega) (by omega) (by omega) (by omega) sb
    rw [show cnt (fK M h) 30 - 1 + 1 - 0 = cnt (fK M h) 30 by omega] at S
    rw [e6]
    exact S
  · have e7 : (swp (cnt (fK M h) 30).toNat (cnt (fK M h) 30 - 1) A) 13 6 = cnt (fK M h) 30 := by rw [(swp_spec _ _ A).2 13 6 (by omega)]; exact e6
    have bd := swp_bd (cnt (fK M h) 30).toNat (cnt (fK M h) 30 - 1) 0 A sb (by omega) 0 e (by omega) (by omega) e1 e2
    rw [show 5 * 0 + e - 1 = e - 1 by omega] at bd
    omega
theorem t_untiedCost (hb : isHC h b k w n) (hH : HnI M h b k w n) (hK : KyI M) (hR : RuI M) : Ret 5 0 0 mR_untiedCost [.inr 13, .inr b] (S0 N) M (fun r S' M' => r = some (.inl (plain M h)) ∧ S' = S0 N ∧ FrR M M') := by
  have cr := cnt_rng (fK M h) 30
  have Lo := t_load (N := N) (x := -9) (f := -9) hb hH hK hR (by decide) (fun z => absurd rfl z) (by decide) (Or.inl rfl)
  have an : ∀ A, Ld h (-9) (-9) b M A → anV (swp (cnt (fK M h) 30).toNat (cnt (fK M h) 30 - 1) A) = plain M h := fun A hL => ld_an hL hR (fun z => absurd rfl z) (hc_h hb) hK (L := mset (LM M h) 24 12 0) (fun c hc => by
      have : LX M h (-9) (-9) c = LM M h c := by unfold LX; rw [if_pos rfl]
      rw [this]; funext j; exact mset_ne (by omega)) (by rw [mset_ne (by omega), LM_6]) (by rw [mset_ne (by omega), LM_7]) (mset_eq ..)
  rcases hb with ⟨rfl, rfl, rfl, rfl, rfl⟩ | ⟨rfl, rfl, rfl, rfl, rfl⟩
  all_goals
    refine eR_untiedCost [] 30 (Nat.le_of_ble_eq_true rfl) (fun hM => ?_)
    refine ⟨4, _, (Nat.le_of_ble_eq_true rfl), Lo, ?_⟩
    rintro r S' A ⟨rfl, rfl, hL⟩ hA
    obtain ⟨p1, p2⟩ := t_plainRow (N := N) hL hR
    rw [an A hL] at p2
    refine CL.vo p1 (Nat.le_of_ble_eq_true rfl) (fun hM2 => CL.pu p2 (Nat.le_of_ble_eq_true rfl) ?_)
    exact ⟨rfl, rfl, swp_frR hL _ _⟩
end Ru
