/-! ===== the class: public calls that set or tell ===== -/
/-- both hands are the reference's -/
def HI2 (M : Mm) : Prop := ∀ h b k w n, isHC h b k w n → HnI M h b k w n
section Kp
variable {N : Nat} {M : Mm} {h : Int}
theorem hc_of (q : isH h) : ∃ b k w n, isHC h b k w n := by
  rcases q with rfl | rfl
  · exact ⟨5, 6, 7, 8, Or.inl ⟨rfl, rfl, rfl, rfl, rfl⟩⟩
  · exact ⟨9, 10, 11, 12, Or.inr ⟨rfl, rfl, rfl, rfl, rfl⟩⟩
theorem t_playerOf {b k w n : Nat} (hb : isHC h b k w n) : Ret 0 0 0 mK_playerOf [.inr 1, .inl h] (S0 N) M (Pa (S0 N) M b) := by
  rcases hb with ⟨rfl, rfl, rfl, rfl, rfl⟩ | ⟨rfl, rfl, rfl, rfl, rfl⟩
  all_goals
    refine eK_playerOf [] 20 (Nat.le_of_ble_eq_true rfl) (fun hM => ?_)
    exact ⟨by decide, rfl, rfl, rfl⟩
theorem t_isNote {k : Int} (hr : R32 h) (hk : R32 k) (hH : HI2 M) : Ret 1 0 0 mK_isNote [.inr 1, .inl h, .inl k] (S0 N) M (Pu (S0 N) M (bi (isH h ∧ 0 ≤ k ∧ k < cnt (fK M h) 30))) := by
  have cr := cnt_rng (fK M h) 30
  refine eK_isNote [] 30 (Nat.le_of_ble_eq_true rfl) (fun hM => ?_)
  refine CL.bl (t_isHand hr) (Nat.le_of_ble_eq_true rfl) (fun q1 => ?_) (fun q1 => ?_)
  · obtain ⟨b, kk, w, n, hb⟩ := hc_of q1
    have P := t_playerOf (N := N) (M := M) hb
    have C := t_noteCount' (N := N) hb (hH _ _ _ _ _ hb)
    refine ⟨R32_1, hk, ite_i (fun q2 => ?_) (fun q2 => ?_)⟩
    · exact ⟨Or.inl rfl, pu_eq (bi_f (fun z => by have := z.2.1; omega)).symm⟩
    · rcases hb with ⟨rfl, rfl, rfl, rfl, rfl⟩ | ⟨rfl, rfl, rfl, rfl, rfl⟩
      all_goals
        refine CL.pa P (Nat.le_of_ble_eq_true rfl) (CL.pu C (Nat.le_of_ble_eq_true rfl) ?_)
        refine ⟨⟨hk, by omega⟩, ite_i (fun q3 => ?_) (fun q3 => ?_)⟩
        · exact ⟨Or.inr rfl, pu_eq (bi_t ⟨by omega, by omega, q3⟩).symm⟩
        · exact ⟨Or.inl rfl, pu_eq (bi_f (fun z => q3 z.2.2)).symm⟩
  · exact ⟨R32_0, Or.inl rfl, pu_eq (bi_f (fun z => q1 z.1)).symm⟩
theorem k_put {m key : Int} (hr : R32 h) (hm : R32 m) (hk : R32 key) (hH : HI2 M) : Ret 3 0 0 mK_put [.inr 1, .inl h, .inl m, .inl key] (S0 N) M (fun r S' M' => r = some (.inl (putV M h m key)) ∧ S' = S0 N ∧ (putK h m key → ∀ b k w n, isHC h b k w n → Gv b k w n m key M M') ∧ (¬ putK h m key → M' = M)) := by
  have go : isH h → isM m → (key = -9 ∨ isK key) → AJ 3 0 0 mK_put (fun r S' M' => r = some (.inl (putV M h m key)) ∧ S' = S0 N ∧ (putK h m key → ∀ b k w n, isHC h b k w n → Gv b k w n m key M M') ∧ (¬ putK h m key → M' = M)) 0 0 32 [some (.inr 1), some (.inl h), some (.inl m), some (.inl key)] [] (S0 N) M := by
    intro q1 q2 q3
    obtain ⟨b, k, w, n, hb⟩ := hc_of q1
    have P := t_playerOf (N := N) (M := M) hb
    have K := t_keyAt (N := N) (M := M) (b := b) (hc_b hb) q2.1 q2.2
    have G := t_give (N := N) (M := M) (m := m) (key := key) (hc_c hb) q2.1 q2.2 hk
    have e : M (b + 1) m = putV M h m key := by
      unfold putV
      rw [if_pos ⟨q1, q2⟩, if_pos q3, show b + 1 = k by omega]
      exact ((hH _ _ _ _ _ hb).1 m q2.1 q2.2).1
    rw [e] at K
    have fin : ∀ M', Gv b k w n m key M M' → (fun (r : Option Vl) (S' : Ly) (M' : Mm) => r = some (.inl (putV M h m key)) ∧ S' = S0 N ∧ (putK h m key → ∀ b k w n, isHC h b k w n → Gv b k w n m key M M') ∧ (¬ putK h m key → M' = M)) (some (.inl (putV M h m key))) (S0 N) M' := fun M' hG => ⟨rfl, rfl, fun _ b' k' w' n' hb' => by
      have e1 : b' = b := by omega
      have e2 : k' = k := by omega
      have e3 : w' = w := by omega
      have e4 : n' = n := by omega
      subst e1; subst e2; subst e3; subst e4
      exact hG, fun z => absurd ⟨⟨q1, q2⟩, q3⟩ z⟩
    rcases hb with ⟨rfl, rfl, rfl, rfl, rfl⟩ | ⟨rfl, rfl, rfl, rfl, rfl⟩
    all_goals
      refine aK_put [] 40 (fun hM => ?_)
      refine CL.pa P (Nat.le_of_ble_eq_true rfl) (CL.pu K (Nat.le_of_ble_eq_true rfl) ?_)
      refine ⟨2, _, (Nat.le_of_ble_eq_true rfl), G, ?_⟩
      rintro r S' M' ⟨rfl, rfl, hG⟩ hM'
      exact fin M' hG
  refine eK_put [32] 40 (Nat.le_of_ble_eq_true rfl) (fun hM => ?_)
  refine CL.bl (t_isHand hr) (Nat.le_of_ble_eq_true rfl) (fun q1 => ?_) (fun q1 => ?_)
  · refine ⟨R32_1, CL.bl (t_isMoment hm) (Nat.le_of_ble_eq_true rfl) (fun q2 => ?_) (fun q2 => ?_)⟩
    · refine ⟨R32_1, by omega, ite_i (fun q3 => ?_) (fun q3 => ?_)⟩
      · exact go q1 q2 (Or.inl q3)
      · refine CL.bl (t_isKey hk) (Nat.le_of_ble_eq_true rfl) (fun q4 => ?_) (fun q4 => ?_)
        · exact ⟨R32_1, go q1 q2 (Or.inr q4)⟩
        · exact ⟨R32_0, by unfold putV; rw [if_pos ⟨q1, q2⟩, if_neg (by omega)], rfl, fun z => absurd z.2 (by omega), fun _ => rfl⟩
    · exact ⟨R32_0, by unfold putV; rw [if_neg (fun z => q2 z.2)], rfl, fun z => absurd z.1.2 q2, fun _ => rfl⟩
  · exact ⟨R32_0, by unfold putV; rw [if_neg (fun z => q1 z.1)], rfl, fun z => absurd z.1.1 q1, fun _ => rfl⟩
end Kp
