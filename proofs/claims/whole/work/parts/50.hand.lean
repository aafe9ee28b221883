/-! ===== the class: a hand (cells b to b + 3; b is 5 or 9) ===== -/
section Hd
variable {N : Nat} {M : Mm} {b : Nat}
abbrev isB (b : Nat) : Prop := b = 5 ∨ b = 9
theorem t_keyAt {m : Int} (hb : isB b) (h0 : 0 ≤ m) (h1 : m < 30) : Ret 1 0 0 mH_keyAt [.inr b, .inl m] (S0 N) M (Pu (S0 N) M (M (b + 1) m)) := by
  rcases hb with rfl | rfl
  all_goals
    refine eH_keyAt [] 20 (Nat.le_of_ble_eq_true rfl) (fun hM => ?_)
    refine CL.pu (t_at (n := 30) rfl h0 h1 (Nat.le_of_ble_eq_true rfl)) (Nat.le_of_ble_eq_true rfl) ?_
    exact pu_eq rfl
theorem t_markAt {m : Int} (hb : isB b) (h0 : 0 ≤ m) (h1 : m < 30) : Ret 1 0 0 mH_markAt [.inr b, .inl m] (S0 N) M (Pu (S0 N) M (M (b + 2) m)) := by
  rcases hb with rfl | rfl
  all_goals
    refine eH_markAt [] 20 (Nat.le_of_ble_eq_true rfl) (fun hM => ?_)
    refine CL.pu (t_at (n := 30) rfl h0 h1 (Nat.le_of_ble_eq_true rfl)) (Nat.le_of_ble_eq_true rfl) ?_
    exact pu_eq rfl
theorem t_setMark {m f : Int} (hb : isB b) (h0 : 0 ≤ m) (h1 : m < 30) (hf : R32 f) : Ret 1 0 0 mH_setMark [.inr b, .inl m, .inl f] (S0 N) M (Vo (S0 N) (mset M (b + 2) m f)) := by
  rcases hb with rfl | rfl
  all_goals
    refine eH_setMark [] 20 (Nat.le_of_ble_eq_true rfl) (fun hM => ?_)
    refine CL.vo (t_store (n := 30) rfl (by decide) h0 h1 (Nat.le_of_ble_eq_true rfl) hf) (Nat.le_of_ble_eq_true rfl) (fun hM2 => ?_)
    exact vo_eq rfl
theorem t_side (hb : isB b) : Ret 0 0 0 mH_side [.inr b] (S0 N) M (Pu (S0 N) M (M b 0)) := by
  rcases hb with rfl | rfl
  all_goals
    refine eH_side [] 20 (Nat.le_of_ble_eq_true rfl) (fun hM => ?_)
    exact pu_eq rfl
theorem t_noteCount (hb : isB b) : Ret 0 0 0 mH_noteCount [.inr b] (S0 N) M (Pu (S0 N) M (M b 4)) := by
  rcases hb with rfl | rfl
  all_goals
    refine eH_noteCount [] 20 (Nat.le_of_ble_eq_true rfl) (fun hM => ?_)
    exact pu_eq rfl
theorem t_firstTied (hb : isB b) : Ret 0 0 0 mH_firstTied [.inr b] (S0 N) M (Pu (S0 N) M (M b 5)) := by
  rcases hb with rfl | rfl
  all_goals
    refine eH_firstTied [] 20 (Nat.le_of_ble_eq_true rfl) (fun hM => ?_)
    exact pu_eq rfl
theorem t_secondTied (hb : isB b) : Ret 0 0 0 mH_secondTied [.inr b] (S0 N) M (Pu (S0 N) M (M b 6)) := by
  rcases hb with rfl | rfl
  all_goals
    refine eH_secondTied [] 20 (Nat.le_of_ble_eq_true rfl) (fun hM => ?_)
    exact pu_eq rfl
theorem t_tiedLength (hb : isB b) : Ret 0 0 0 mH_tiedLength [.inr b] (S0 N) M (Pu (S0 N) M (M b 7)) := by
  rcases hb with rfl | rfl
  all_goals
    refine eH_tiedLength [] 20 (Nat.le_of_ble_eq_true rfl) (fun hM => ?_)
    exact pu_eq rfl
theorem t_momentOf {k : Int} (hb : isB b) (h0 : 0 ≤ k) (h1 : k < 30) : Ret 1 0 0 mH_momentOf [.inr b, .inl k] (S0 N) M (Pu (S0 N) M (M (b + 3) k)) := by
  rcases hb with rfl | rfl
  all_goals
    refine eH_momentOf [] 20 (Nat.le_of_ble_eq_true rfl) (fun hM => ?_)
    refine CL.pu (t_at (n := 30) rfl h0 h1 (Nat.le_of_ble_eq_true rfl)) (Nat.le_of_ble_eq_true rfl) ?_
    exact pu_eq rfl
theorem t_keyOf {k : Int} (hb : isB b) (h0 : 0 ≤ k) (h1 : k < 30) (h2 : 0 ≤ M (b + 3) k) (h3 : M (b + 3) k < 30) : Ret 1 0 0 mH_keyOf [.inr b, .inl k] (S0 N) M (Pu (S0 N) M (M (b + 1) (M (b + 3) k))) := by
  rcases hb with rfl | rfl
  all_goals
    refine eH_keyOf [] 20 (Nat.le_of_ble_eq_true rfl) (fun hM => ?_)
    refine CL.pu (t_at (n := 30) rfl h0 h1 (Nat.le_of_ble_eq_true rfl)) (Nat.le_of_ble_eq_true rfl) ?_
    refine CL.pu (t_at (n := 30) rfl h2 h3 (Nat.le_of_ble_eq_true rfl)) (Nat.le_of_ble_eq_true rfl) ?_
    exact pu_eq rfl
theorem t_markOf {k : Int} (hb : isB b) (h0 : 0 ≤ k) (h1 : k < 30) (h2 : 0 ≤ M (b + 3) k) (h3 : M (b + 3) k < 30) : Ret 1 0 0 mH_markOf [.inr b, .inl k] (S0 N) M (Pu (S0 N) M (M (b + 2) (M (b + 3) k))) := by
  rcases hb with rfl | rfl
  all_goals
    refine eH_markOf [] 20 (Nat.le_of_ble_eq_true rfl) (fun hM => ?_)
    refine CL.pu (t_at (n := 30) rfl h0 h1 (Nat.le_of_ble_eq_true rfl)) (Nat.le_of_ble_eq_true rfl) ?_
    refine CL.pu (t_at (n := 30) rfl h2 h3 (Nat.le_of_ble_eq_true rfl)) (Nat.le_of_ble_eq_true rfl) ?_
    exact pu_eq rfl
theorem t_setTie {i j n : Int} (hb : isB b) (hi : R32 i) (hj : R32 j) (hn : R32 n) : Ret 0 0 0 mH_setTie [.inr b, .inl i, .inl j, .inl n] (S0 N) M (Vo (S0 N) (mset (mset (mset M b 5 i) b 6 j) b 7 n)) := by
  rcases hb with rfl | rfl
  all_goals
    refine eH_setTie [] 20 (Nat.le_of_ble_eq_true rfl) (fun hM => ?_)
    exact ⟨⟨hi, trivial⟩, ⟨hj, trivial⟩, ⟨hn, trivial⟩, vo_eq rfl⟩
theorem t_dropTie (hb : isB b) : Ret 0 0 0 mH_dropTie [.inr b] (S0 N) M (Vo (S0 N) (mset M b 7 0)) := by
  rcases hb with rfl | rfl
  all_goals
    refine eH_dropTie [] 20 (Nat.le_of_ble_eq_true rfl) (fun hM => ?_)
    exact ⟨⟨by decide, trivial⟩, vo_eq rfl⟩
theorem t_hasTie (hb : isB b) : Ret 0 0 0 mH_hasTie [.inr b] (S0 N) M (Pu (S0 N) M (bi (0 < M b 7))) := by
  rcases hb with rfl | rfl
  all_goals
    refine eH_hasTie [] 20 (Nat.le_of_ble_eq_true rfl) (fun hM => ?_)
    refine ⟨hM _ _, ite_i (fun q => ?_) (fun q => ?_)⟩
    · first | exact ⟨Or.inr rfl, pu_eq (bi_t (by omega)).symm⟩ | exact ⟨Or.inl rfl, pu_eq (bi_f (by omega)).symm⟩
    · first | exact ⟨Or.inr rfl, pu_eq (bi_t (by omega)).symm⟩ | exact ⟨Or.inl rfl, pu_eq (bi_f (by omega)).symm⟩
theorem t_tieHolds (hb : isB b) (h6 : 0 < M b 7 → R32 (M b 6 + M b 7)) : Ret 0 0 0 mH_tieHolds [.inr b] (S0 N) M (Pu (S0 N) M (bi (0 < M b 7 ∧ M b 6 + M b 7 ≤ M b 4))) := by
  rcases hb with rfl | rfl
  all_goals
    refine eH_tieHolds [] 20 (Nat.le_of_ble_eq_true rfl) (fun hM => ?_)
    refine ⟨hM _ _, ite_i (fun q => ?_) (fun q => ?_)⟩
    · first | (have h7 := h6 q; refine ⟨⟨h7, hM _ _⟩, ite_i (fun q2 => ?_) (fun q2 => ?_)⟩ <;> first | exact ⟨Or.inr rfl, pu_eq (bi_t (by omega)).symm⟩ | exact ⟨Or.inl rfl, pu_eq (bi_f (by omega)).symm⟩) | exact ⟨Or.inl rfl, pu_eq (bi_f (by omega)).symm⟩
    · first | exact ⟨Or.inl rfl, pu_eq (bi_f (by omega)).symm⟩ | (have h7 := h6 (by omega); refine ⟨⟨h7, hM _ _⟩, ite_i (fun q2 => ?_) (fun q2 => ?_)⟩ <;> first | exact ⟨Or.inr rfl, pu_eq (bi_t (by omega)).symm⟩ | exact ⟨Or.inl rfl, pu_eq (bi_f (by omega)).symm⟩)
end Hd
