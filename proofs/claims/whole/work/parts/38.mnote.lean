/-! ===== the reference: clear, note ===== -/
/-- hand h rests at moments 0 .. i - 1 -/
def clrM (M : Mm) (h i : Int) : Mm := fun c j => if (c = 25 ∨ c = 26) ∧ 30 * h ≤ j ∧ j < 30 * h + i then -9 else M c j
section Nt
variable {N : Nat} {M : Mm} {h : Int}
theorem clr_step {i : Int} (hK : KyI M) (hh : isH h) (h0 : 0 ≤ i) (h1 : i < 30) : lay1 (clrM M h i) (30 * h + i) (-9) = clrM M h (i + 1) := by
  have hk := hK (30 * h + i) (by omega) (by omega)
  have e5 : clrM M h i 25 (30 * h + i) = M 25 (30 * h + i) := by unfold clrM; rw [if_neg (by omega)]
  have e6 : clrM M h i 26 (30 * h + i) = M 26 (30 * h + i) := by unfold clrM; rw [if_neg (by omega)]
  unfold lay1
  rw [e5]
  funext c j
  by_cases hj : j = 30 * h + i
  · subst hj
    by_cases c5 : c = 25
    · subst c5
      have : clrM M h (i + 1) 25 (30 * h + i) = -9 := by unfold clrM; rw [if_pos (by omega)]
      rw [this]
      split <;> exact mset_eq ..
    · by_cases c6 : c = 26
      · subst c6
        have : clrM M h (i + 1) 26 (30 * h + i) = -9 := by unfold clrM; rw [if_pos (by omega)]
        rw [this]
        split
        · rename_i q; rw [mset_ne (by omega), e6]; exact hk.2.2 q
        · rw [mset_ne (by omega)]; exact mset_eq ..
      · have : clrM M h (i + 1) c (30 * h + i) = clrM M h i c (30 * h + i) := by unfold clrM; rw [if_neg (by omega), if_neg (by omega)]
        rw [this]
        split
        · exact mset_ne (by omega)
        · rw [mset_ne (by omega), mset_ne (by omega)]
  · have : clrM M h (i + 1) c j = clrM M h i c j := by
      unfold clrM
      by_cases q : (c = 25 ∨ c = 26) ∧ 30 * h ≤ j ∧ j < 30 * h + i
      · rw [if_pos q, if_pos (by omega)]
      · rw [if_neg q, if_neg (by omega)]
    rw [this]
    split
    · exact mset_ne (by omega)
    · rw [mset_ne (by omega), mset_ne (by omega)]
def clearV (M : Mm) (h : Int) : Int := if isH h then cnt (fK M h) 30 else -1
theorem z_clear (hr : R32 h) (hK : KyI M) : Ret 2 0 0 mM_clear [.inr 24, .inl h] (S0 N) M (Pv (S0 N) (if isH h then chg (mset (clrM M h 30) 40 h (-9)) else M) (clearV M h)) := by
  refine eM_clear [17] 40 (Nat.le_of_ble_eq_true rfl) (fun hM => ?_)
  refine CL.bl (z_isHand hr) (Nat.le_of_ble_eq_true rfl) (fun q => ?_) (fun q => ?_)
  · refine ⟨R32_1, CL.pu (z_notesOf q) (Nat.le_of_ble_eq_true rfl) ?_⟩
    have loop : ∀ (n i : Nat), i + n = 30 → AJ 2 0 0 mM_clear (Pv (S0 N) (if isH h then chg (mset (clrM M h 30) 40 h (-9)) else M) (clearV M h)) 0 0 17 [some (.inr 24), some (.inl h), some (.inl (cnt (fK M h) 30)), some (.inl i)] [] (S0 N) (clrM M h i) := by
      intro n
      induction n with
      | zero =>
        intro i hi
        have : i = 30 := by omega
        subst this
        refine aM_clear [] 40 (fun hM => ?_)
        refine ⟨by decide, ⟨by decide, by omega, by omega, by omega, by decide⟩, ?_⟩
        refine CL.vo z_isChanged (Nat.le_of_ble_eq_true rfl) (fun hM3 => ?_)
        exact pv_eq (by unfold clearV; rw [if_pos q]) (by rw [if_pos q]; rfl)
      | succ n ih =>
        intro i hi
        have h2 := ih (i + 1) (by omega)
        rw [show ((i + 1 : Nat) : Int) = (i : Int) + 1 by omega] at h2
        refine aM_clear [17] 40 (fun hM => ?_)
        refine ⟨by omega, ite_i (fun q2 => ?_) (fun q => by omega)⟩
        refine CL.vo (z_lays q (by omega) (by omega) (by decide)) (Nat.le_of_ble_eq_true rfl) (fun hM3 => ?_)
        rw [clr_step hK q (by omega) (by omega)]
        exact h2
    have h2 := loop 30 0 (by omega)
    have e0 : clrM M h 0 = M := by funext c j; unfold clrM; rw [if_neg (by omega)]
    rw [show ((0 : Nat) : Int) = 0 from rfl, e0] at h2
    exact h2
  · exact ⟨R32_0, pv_eq (by unfold clearV; rw [if_neg q]) (by rw [if_neg q])⟩
def noteV (M : Mm) (h k w : Int) : Int := if isH h ∧ 0 ≤ k ∧ k < cnt (fK M h) 30 then (if w = 0 then nmo (fK M h) k 30 else if w = 1 then M 25 (30 * h + nmo (fK M h) k 30) else if w = 2 then M 26 (30 * h + nmo (fK M h) k 30) else if w = 3 then bi (blk (M 25 (30 * h + nmo (fK M h) k 30))) else -2) else -1
theorem z_note {k w : Int} (hr : R32 h) (hk : R32 k) (hw : R32 w) (hK : KyI M) : Ret 2 0 0 mM_note [.inr 24, .inl h, .inl k, .inl w] (S0 N) M (Pu (S0 N) M (noteV M h k w)) := by
  refine eM_note [] 40 (Nat.le_of_ble_eq_true rfl) (fun hM => ?_)
  refine CL.bl (z_isHand hr) (Nat.le_of_ble_eq_true rfl) (fun q => ?_) (fun q => ?_)
  · refine ⟨R32_1, CL.bl (z_isNote q hk) (Nat.le_of_ble_eq_true rfl) (fun q2 => ?_) (fun q2 => ?_)⟩
    · have no := nmo_ok q2.1 q2.2
      have ky := hK (30 * h + nmo (fK M h) k 30) (by omega) (by omega)
      have kne : M 25 (30 * h + nmo (fK M h) k 30) ≠ -9 := no.2.2.1
      refine ⟨R32_1, CL.pu (z_placeOf q q2.1 q2.2) (Nat.le_of_ble_eq_true rfl) ?_⟩
      refine ⟨by omega, fun q3 => ?_, fun q3 => ?_, fun q3 => ?_, fun q3 => ?_, fun q3 => ?_, trivial⟩
      · exact pu_eq (by unfold noteV; rw [if_pos ⟨q, q2⟩, if_neg (by omega), if_neg (by omega), if_neg (by omega), if_neg (by omega)])
      · exact pu_eq (by unfold noteV; rw [if_pos ⟨q, q2⟩, if_pos (by omega)]; omega)
      · exact ⟨by omega, pu_eq (by unfold noteV; rw [if_pos ⟨q, q2⟩, if_neg (by omega), if_pos (by omega)])⟩
      · exact ⟨by omega, pu_eq (by unfold noteV; rw [if_pos ⟨q, q2⟩, if_neg (by omega), if_neg (by omega), if_pos (by omega)])⟩
      · refine ⟨by omega, ?_⟩
        refine CL.bl (z_isBlack (by omega) (by omega)) (Nat.le_of_ble_eq_true rfl) (fun q4 => ?_) (fun q4 => ?_)
        · exact ⟨R32_1, pu_eq (by unfold noteV; rw [if_pos ⟨q, q2⟩, if_neg (by omega), if_neg (by omega), if_neg (by omega), if_pos (by omega)]; exact (bi_t q4).symm)⟩
        · exact ⟨R32_0, pu_eq (by unfold noteV; rw [if_pos ⟨q, q2⟩, if_neg (by omega), if_neg (by omega), if_neg (by omega), if_pos (by omega)]; exact (bi_f q4).symm)⟩
    · exact ⟨R32_0, pu_eq (by unfold noteV; rw [if_neg (fun z => q2 z.2)])⟩
  · exact ⟨R32_0, pu_eq (by unfold noteV; rw [if_neg (fun z => q z.1)])⟩
end Nt
