/-! ===== the reference: moment, sum, swap, help, many ===== -/
def ctE (E : Int → Prop) [DecidablePred E] : Nat → Int
  | 0 => 0
  | n + 1 => ctE E n + (if E n then 1 else 0)
theorem ctE_rng {E : Int → Prop} [DecidablePred E] : ∀ n : Nat, 0 ≤ ctE E n ∧ ctE E n ≤ n := by
  intro n
  induction n with
  | zero => exact ⟨Int.le_refl _, Int.le_refl _⟩
  | succ n ih => unfold ctE; split <;> omega
theorem ctE_congr {E F : Int → Prop} [DecidablePred E] [DecidablePred F] : ∀ n : Nat, (∀ i : Int, 0 ≤ i → i < n → (E i ↔ F i)) → ctE E n = ctE F n := by
  intro n
  induction n with
  | zero => intro _; rfl
  | succ n ih =>
    intro h
    have h0 := h n (by omega) (by omega)
    unfold ctE
    rw [ih (fun i q1 q2 => h i q1 (by omega))]
    by_cases hE : E n
    · rw [if_pos hE, if_pos (h0.mp hE)]
    · rw [if_neg hE, if_neg (fun z => hE (h0.mpr z))]
/-- two costs together -/
def tgt (a b : Int) : Int := if a = -9 ∨ b = -9 then -9 else a + b
def sumV (M : Mm) : Int := tgt (bst M 0) (bst M 1)
/-- the hands' keys at m change places -/
def swE (M : Mm) (m : Int) : Mm := lay1 (lay1 M m (M 25 (30 + m))) (30 + m) (M 25 m)
def hpL (s : Int → Int) : Nat → Int → Int → Int → Int × Int
  | 0, _, f, b => (f, b)
  | n + 1, m, f, b => if s m ≠ -9 ∧ (b = -9 ∨ s m < b) then hpL s n (m + 1) m (s m) else hpL s n (m + 1) f b
section Help
variable {N : Nat} {M : Mm}
def momentV (M : Mm) (k w : Int) : Int := if (0 ≤ k ∧ k ≤ 29) ∧ 0 ≤ w ∧ w ≤ 3 then eaV (soM M w) 30 0 k else -2
theorem z_moment {k w : Int} (hk : R32 k) (hw : R32 w) (hK : KyI M) : Ret 1 0 0 mM_moment [.inr 24, .inl k, .inl w] (S0 N) M (Pu (S0 N) M (momentV M k w)) := by
  refine eM_moment [27] 40 (Nat.le_of_ble_eq_true rfl) (fun hM => ?_)
  refine CL.bl (z_within hk R32_0 (by decide)) (Nat.le_of_ble_eq_true rfl) (fun q1 => ?_) (fun q1 => ?_)
  · refine ⟨R32_1, CL.bl (z_within hw R32_0 (by decide)) (Nat.le_of_ble_eq_true rfl) (fun q2 => ?_) (fun q2 => ?_)⟩
    · have ev : momentV M k w = eaV (soM M w) 30 0 k := by unfold momentV; rw [if_pos ⟨q1, q2⟩]
      rw [ev]
      have loop : ∀ (n : Nat) (j kk : Int), 0 ≤ j → j + n = 30 → 0 ≤ kk → kk ≤ 29 → AJ 1 0 0 mM_moment (Pu (S0 N) M (eaV (soM M w) n j kk)) 0 0 27 [some (.inr 24), some (.inl k), some (.inl w), some (.inl kk), some (.inl j)] [] (S0 N) M := by
        intro n
        induction n with
        | zero =>
          intro j kk hj hn h0 h1
          refine aM_moment [] 40 (fun hM => ?_)
          exact ⟨by omega, ite_i (fun q => by omega) (fun q => pu_eq rfl)⟩
        | succ n ih =>
          intro j kk hj hn h0 h1
          refine aM_moment [27] 40 (fun hM => ?_)
          refine ⟨by omega, ite_i (fun q => ?_) (fun q => by omega)⟩
          refine CL.bl (z_isSo (by omega) (by omega) q2 hK) (Nat.le_of_ble_eq_true rfl) (fun q3 => ?_) (fun q3 => ?_)
          · refine ⟨R32_1, by omega, ite_i (fun q4 => ?_) (fun q4 => ?_)⟩
            · exact pu_eq (by unfold eaV; rw [if_pos q3, if_pos q4])
            · have h2 := ih (j + 1) (kk - 1) (by omega) (by omega) (by omega) (by omega)
              unfold eaV; rw [if_pos q3, if_neg q4]
              exact h2
          · have h2 := ih (j + 1) kk (by omega) (by omega) (by omega) (by omega)
            refine ⟨R32_0, ?_⟩
            unfold eaV; rw [if_neg q3]
            exact h2
      exact ⟨R32_1, loop 30 0 k (by omega) (by omega) q1.1 q1.2⟩
    · exact ⟨R32_0, pu_eq (by unfold momentV; rw [if_neg (fun z => q2 z.2)])⟩
  · exact ⟨R32_0, pu_eq (by unfold momentV; rw [if_neg (fun z => q1 z.1)])⟩
theorem z_manyMoments {w : Int} (hw : 0 ≤ w ∧ w ≤ 3) (hK : KyI M) : Ret 1 0 0 mM_manyMoments [.inr 24, .inl w] (S0 N) M (Pu (S0 N) M (ctE (soM M w) 30)) := by
  have loop : ∀ (n i : Nat), i + n = 30 → AJ 1 0 0 mM_manyMoments (Pu (S0 N) M (ctE (soM M w) 30)) 0 0 4 [some (.inr 24), some (.inl w), some (.inl (ctE (soM M w) i)), some (.inl i)] [] (S0 N) M := by
    intro n
    induction n with
    | zero =>
      intro i hi
      have : i = 30 := by omega
      subst this
      refine aM_manyMoments [] 40 (fun hM => ?_)
      exact ⟨by decide, pu_eq rfl⟩
    | succ n ih =>
      intro i hi
      have ar := ctE_rng (E := soM M w) i
      have h2 := ih (i + 1) (by omega)
      rw [show ((i + 1 : Nat) : Int) = (i : Int) + 1 by omega] at h2
      have ea : ctE (soM M w) (i + 1) = ctE (soM M w) i + (if soM M w i then 1 else 0) := rfl
      rw [ea] at h2
      refine aM_manyMoments [4] 40 (fun hM => ?_)
      refine ⟨by omega, ite_i (fun q => ?_) (fun q => by omega)⟩
      refine CL.bl (z_isSo (by omega) (by omega) hw hK) (Nat.le_of_ble_eq_true rfl) (fun q3 => ?_) (fun q3 => ?_)
      · rw [if_pos q3] at h2; exact ⟨R32_1, h2⟩
      · rw [if_neg q3] at h2; exact ⟨R32_0, h2⟩
  refine eM_manyMoments [4] 40 (Nat.le_of_ble_eq_true rfl) (fun hM => ?_)
  exact loop 30 0 (by omega)
theorem z_manyMarks : Ret 0 0 0 mM_manyMarks [.inr 24] (S0 N) M (Pu (S0 N) M (ctE (fun j => M 26 j ≠ -9) 60)) := by
  have loop : ∀ (n i : Nat), i + n = 60 → AJ 0 0 0 mM_manyMarks (Pu (S0 N) M (ctE (fun j => M 26 j ≠ -9) 60)) 0 0 4 [some (.inr 24), some (.inl (ctE (fun j => M 26 j ≠ -9) i)), some (.inl i)] [] (S0 N) M := by
    intro n
    induction n with
    | zero =>
      intro i hi
      have : i = 60 := by omega
      subst this
      refine aM_manyMarks [] 40 (fun hM => ?_)
      exact ⟨by decide, pu_eq rfl⟩
    | succ n ih =>
      intro i hi
      have ar := ctE_rng (E := fun j => M 26 j ≠ -9) i
      have h2 := ih (i + 1) (by omega)
      rw [show ((i + 1 : Nat) : Int) = (i : Int) + 1 by omega] at h2
      have ea : ctE (fun j => M 26 j ≠ -9) (i + 1) = ctE (fun j => M 26 j ≠ -9) i + (if M 26 i ≠ -9 then 1 else 0) := rfl
      rw [ea] at h2
      refine aM_manyMarks [4] 40 (fun hM => ?_)
      refine ⟨by omega, ite_i (fun q => ?_) (fun q => by omega)⟩
      refine ⟨by omega, ⟨hM _ _, by decide⟩, ite_i (fun q3 => ?_) (fun q3 => ?_)⟩
      · rw [if_neg (fun z => z q3)] at h2; exact h2
      · rw [if_pos q3] at h2; exact h2
  refine eM_manyMarks [4] 40 (Nat.le_of_ble_eq_true rfl) (fun hM => ?_)
  exact loop 60 0 (by omega)
theorem z_together {a b : Int} (ha : a = -9 ∨ (0 ≤ a ∧ a < 1000000)) (hb : b = -9 ∨ (0 ≤ b ∧ b < 1000000)) : Ret 0 0 0 mM_together [.inr 24, .inl a, .inl b] (S0 N) M (Pu (S0 N) M (tgt a b)) := by
  refine eM_together [] 30 (Nat.le_of_ble_eq_true rfl) (fun hM => ?_)
  refine ⟨by omega, ite_i (fun q => ?_) (fun q => ?_)⟩
  · exact pu_eq (by unfold tgt; rw [if_pos (Or.inl q)])
  · refine ⟨by omega, ite_i (fun q2 => ?_) (fun q2 => ?_)⟩
    · exact pu_eq (by unfold tgt; rw [if_pos (Or.inr q2)])
    · exact pu_eq (by unfold tgt; rw [if_neg (by omega)])
theorem z_sum (hI : MI M) (hC : ChI M) : Ret 11 0 0 mM_sum [.inr 24] (S0 N) M (fun r S' M' => r = some (.inl (sumV M)) ∧ S' = S0 N ∧ Ak M M') := by
  refine eM_sum [] 30 (Nat.le_of_ble_eq_true rfl) (fun hM => ?_)
  refine ⟨10, _, (Nat.le_of_ble_eq_true rfl), z_findHand (Or.inl rfl) hI hC, ?_⟩
  rintro r S' M1 ⟨rfl, rfl, hF1, hC1, k1, j1⟩ hM1
  have hI1 := hI.fra hF1
  refine ⟨10, _, (Nat.le_of_ble_eq_true rfl), z_findHand (Or.inr rfl) hI1 hC1, ?_⟩
  rintro r S' M2 ⟨rfl, rfl, hF2, hC2, k2, j2⟩ hM2
  have e0 : M2 38 0 = bst M 0 := by rw [j2 0 (by omega), k1.1, ce_bst hF1.ce (Or.inl rfl) hI]
  have e1 : M2 38 1 = bst M 1 := by rw [k2.1, ce_bst (hF1.trans hF2).ce (Or.inr rfl) hI]
  refine ⟨by omega, by omega, ?_⟩
  rw [e0, e1]
  refine CL.pu (z_together (bst_rng (Or.inl rfl) hI) (bst_rng (Or.inr rfl) hI)) (Nat.le_of_ble_eq_true rfl) ?_
  exact ⟨rfl, rfl, hF1.trans hF2, hC2⟩
section Sw
variable {m : Int}
theorem lay_25 {j key : Int} (i : Int) : lay1 M j key 25 i = if i = j then key else M 25 i := by
  unfold lay1
  split
  · unfold mset; simp
  · unfold mset; simp
theorem lay_26 {j key : Int} (i : Int) : lay1 M j key 26 i = if i = j ∧ M 25 j ≠ key then -9 else M 26 i := by
  unfold lay1
  split
  · rename_i q; rw [mset_ne (by omega), if_neg (fun z => z.2 q)]
  · rename_i q; rw [mset_ne (by omega)]; unfold mset; simp [q]
theorem lay_o {j key : Int} {c : Nat} (i : Int) (hc : c ≠ 25 ∧ c ≠ 26) : lay1 M j key c i = M c i := by
  unfold lay1
  split
  · exact mset_ne (by omega)
  · rw [mset_ne (by omega), mset_ne (by omega)]
theorem KyI.lay {j key : Int} (hK : KyI M) (hk : key = -9 ∨ isK key) : KyI (lay1 M j key) := by
  intro i i0 i1
  have := hK i i0 i1
  rw [lay_25, lay_26]
  by_cases hij : i = j
  · subst hij
    rw [if_pos rfl]
    by_cases q : M 25 i = key
    · rw [if_neg (fun z => z.2 q)]; subst q; exact this
    · rw [if_pos ⟨rfl, q⟩]; omega
  · rw [if_neg hij, if_neg (fun z => hij z.1)]; exact this
theorem KyI.key (hK : KyI M) {j : Int} (h0 : 0 ≤ j) (h1 : j < 60) : M 25 j = -9 ∨ isK (M 25 j) := (hK j h0 h1).1
theorem KyI.sw (hK : KyI M) (h0 : 0 ≤ m) (h1 : m < 30) : KyI (swE M m) := (hK.lay (hK.key (by omega) (by omega))).lay (hK.key (by omega) (by omega))
theorem sw_25 (h0 : 0 ≤ m) (j : Int) : swE M m 25 j = if j = 30 + m then M 25 m else if j = m then M 25 (30 + m) else M 25 j := by
  unfold swE; rw [lay_25, lay_25]
theorem sw_26 (j : Int) (h : j ≠ m ∧ j ≠ 30 + m) : swE M m 26 j = M 26 j := by
  unfold swE; rw [lay_26, if_neg (fun z => h.2 z.1), lay_26, if_neg (fun z => h.1 z.1)]
theorem sw_o {c : Nat} (j : Int) (hc : c ≠ 25 ∧ c ≠ 26) : swE M m c j = M c j := by
  unfold swE; rw [lay_o _ hc, lay_o _ hc]
theorem MI.sw (hI : MI M) (h0 : 0 ≤ m) (h1 : m < 30) : MI (swE M m) := by
  have f : ∀ c : Nat, c ≠ 25 ∧ c ≠ 26 → swE M m c = M c := fun c hc => by funext j; exact sw_o j hc
  obtain ⟨a, b, c⟩ := hI
  refine ⟨?_, b.sw h0 h1, ?_⟩
  · unfold RuI at *; rw [f 3 (by omega), f 4 (by omega), f 27 (by omega), f 28 (by omega), f 29 (by omega), f 30 (by omega)]; exact a
  · unfold TieI at *; rw [f 40 (by omega), f 41 (by omega), f 42 (by omega)]; exact c
theorem z_swaps (h0 : 0 ≤ m) (h1 : m < 30) : Ret 1 0 0 mM_swaps [.inr 24, .inl m] (S0 N) M (Vo (S0 N) (swE M m)) := by
  have z1 := fun (M : Mm) (key : Int) (hk : R32 key) => z_lays (N := N) (h := 0) (m := m) (key := key) (M := M) (Or.inl rfl) h0 h1 hk
  have z2 := fun (M : Mm) (key : Int) (hk : R32 key) => z_lays (N := N) (h := 1) (m := m) (key := key) (M := M) (Or.inr rfl) h0 h1 hk
  rw [show (30 : Int) * 0 + m = m by omega] at z1
  rw [show (30 : Int) * 1 + m = 30 + m by omega] at z2
  refine eM_swaps [] 30 (Nat.le_of_ble_eq_true rfl) (fun hM => ?_)
  refine ⟨by omega, by omega, ?_⟩
  refine CL.vo (z1 _ _ (hM _ _)) (Nat.le_of_ble_eq_true rfl) (fun hM2 => ?_)
  refine CL.vo (z2 _ _ (hM _ _)) (Nat.le_of_ble_eq_true rfl) (fun hM3 => ?_)
  exact vo_eq rfl
theorem ChI.chg (A : Mm) : ChI (chg A) := by
  refine ⟨Or.inl ?_, Or.inl ?_⟩
  · show mset (mset A 24 18 0) 24 19 0 24 18 = 0
    rw [mset_ne (by omega), mset_eq]
  · exact mset_eq ..
end Sw
end Help
