/-! ===== the class: many, exchange ===== -/
section Ku
variable {N : Nat} {M : Mm} {h : Int}
theorem hc0 : isHC 0 5 6 7 8 := Or.inl ⟨rfl, rfl, rfl, rfl, rfl⟩
theorem hc1 : isHC 1 9 10 11 12 := Or.inr ⟨rfl, rfl, rfl, rfl, rfl⟩
theorem k_many {w : Int} (hw : R32 w) (hH : HI2 M) (hq : PQ M M) (hT : TieI M) : Ret 4 0 0 mK_many [.inr 1, .inl w] (S0 N) M (Pu (S0 N) M (manyV M w)) := by
  have I0 := hH _ _ _ _ _ hc0
  have I1 := hH _ _ _ _ _ hc1
  have r0 := ctE_rng (E := fun j => M 7 j ≠ -9) 30
  have r1 := ctE_rng (E := fun j => M 11 j ≠ -9) 30
  have em : ctE (fun j => M 7 j ≠ -9) 30 + ctE (fun j => M 11 j ≠ -9) 30 = ctE (fun j => M 26 j ≠ -9) 60 := by
    have := ctE_split (E := fun j => M 26 j ≠ -9) 30 30
    rw [show 60 = 30 + 30 from rfl, this]
    congr 1
    · exact ctE_congr 30 (fun i i0 i1 => by
        have := (I0.1 i i0 (by omega)).2
        rw [show (30 : Int) * 0 + i = i by omega] at this
        show M 7 i ≠ -9 ↔ M 26 i ≠ -9
        rw [this])
    · exact ctE_congr 30 (fun i i0 i1 => by
        have := (I1.1 i i0 (by omega)).2
        rw [show (30 : Int) * 1 + i = ((30 : Nat) : Int) + i by omega] at this
        show M 11 i ≠ -9 ↔ M 26 (((30 : Nat) : Int) + i) ≠ -9
        rw [this])
  refine eK_many [] 60 (Nat.le_of_ble_eq_true rfl) (fun hM => ?_)
  refine ⟨by omega, fun q => ?_, fun q => ?_, fun q => ?_, fun q => ?_, fun q => ?_, fun q => ?_, fun q => ?_, fun q => ?_, trivial⟩
  · exact pu_eq (by unfold manyV; rw [if_neg (by omega), if_neg (by omega), if_neg (by omega), if_neg (by omega), if_neg (by omega)])
  · subst q; refine CL.pu (t_noteCount' hc0 I0) (Nat.le_of_ble_eq_true rfl) (pu_eq (by unfold manyV; rw [if_pos (Or.inl rfl)]))
  · subst q; refine CL.pu (t_noteCount' hc1 I1) (Nat.le_of_ble_eq_true rfl) (pu_eq (by unfold manyV; rw [if_pos (Or.inr rfl)]))
  · refine CL.pu (t_markCount (hc_c hc0)) (Nat.le_of_ble_eq_true rfl) (CL.pu (t_markCount (hc_c hc1)) (Nat.le_of_ble_eq_true rfl) (pu_eq (by unfold manyV; rw [if_neg (by omega), if_pos (by omega)]; exact em)))
  · refine CL.pu t_size (Nat.le_of_ble_eq_true rfl) (pu_eq (by unfold manyV; rw [if_neg (by omega), if_neg (by omega), if_pos (by omega)]; exact hq.1))
  · refine CL.bl (t_tieHolds' hc0 I0 hT) (Nat.le_of_ble_eq_true rfl) (fun q1 => ?_) (fun q1 => ?_)
    · refine ⟨R32_1, CL.bl (t_tieHolds' hc1 I1 hT) (Nat.le_of_ble_eq_true rfl) (fun q2 => ?_) (fun q2 => ?_)⟩
      · exact ⟨R32_1, pu_eq (by unfold manyV; rw [if_neg (by omega), if_neg (by omega), if_neg (by omega), if_pos (by omega), bi_t q1, bi_t q2])⟩
      · exact ⟨R32_0, pu_eq (by unfold manyV; rw [if_neg (by omega), if_neg (by omega), if_neg (by omega), if_pos (by omega), bi_t q1, bi_f q2])⟩
    · refine ⟨R32_0, CL.bl (t_tieHolds' hc1 I1 hT) (Nat.le_of_ble_eq_true rfl) (fun q2 => ?_) (fun q2 => ?_)⟩
      · exact ⟨R32_1, pu_eq (by unfold manyV; rw [if_neg (by omega), if_neg (by omega), if_neg (by omega), if_pos (by omega), bi_f q1, bi_t q2])⟩
      · exact ⟨R32_0, pu_eq (by unfold manyV; rw [if_neg (by omega), if_neg (by omega), if_neg (by omega), if_pos (by omega), bi_f q1, bi_f q2])⟩
  · refine CL.pu (t_countOf hH (by omega)) (Nat.le_of_ble_eq_true rfl) (pu_eq (by unfold manyV; rw [if_neg (by omega), if_neg (by omega), if_neg (by omega), if_neg (by omega), if_pos (by omega), show w - 5 = 0 by omega]))
  · refine CL.pu (t_countOf hH (by omega)) (Nat.le_of_ble_eq_true rfl) (pu_eq (by unfold manyV; rw [if_neg (by omega), if_neg (by omega), if_neg (by omega), if_neg (by omega), if_pos (by omega), show w - 5 = 1 by omega]))
/-- both hands' keys at m change places -/
def Xc (m : Int) (M M' : Mm) : Prop := ∃ M1, Gv 5 6 7 8 m (M 10 m) M M1 ∧ Gv 9 10 11 12 m (M 6 m) M1 M'
theorem t_exchange {m : Int} (h0 : 0 ≤ m) (h1 : m < 30) : Ret 3 0 0 mK_exchange [.inr 1, .inl m] (S0 N) M (fun r S' M' => r = none ∧ S' = S0 N ∧ Xc m M M') := by
  refine eK_exchange [] 40 (Nat.le_of_ble_eq_true rfl) (fun hM => ?_)
  refine CL.pu (t_keyAt (b := 5) (Or.inl rfl) h0 h1) (Nat.le_of_ble_eq_true rfl) (CL.pu (t_keyAt (b := 9) (Or.inr rfl) h0 h1) (Nat.le_of_ble_eq_true rfl) ?_)
  refine ⟨2, _, (Nat.le_of_ble_eq_true rfl), t_give (hc_c hc0) h0 h1 (hM _ _), ?_⟩
  rintro r S' M1 ⟨rfl, rfl, hG1⟩ hM1
  refine ⟨2, _, (Nat.le_of_ble_eq_true rfl), t_give (hc_c hc1) h0 h1 (hM _ _), ?_⟩
  rintro r S' M2 ⟨rfl, rfl, hG2⟩ hM2
  exact ⟨rfl, rfl, M1, hG1, hG2⟩
end Ku
