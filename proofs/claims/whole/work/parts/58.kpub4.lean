/-! ===== the class: echoes, moments, many ===== -/
section Ks
variable {N : Nat} {M : Mm} {h : Int}
theorem t_echoStart {p x : Int} (hq : PQ M M) (hP : PhI M) (hH : HI2 M) (hK : KyI M) (hp0 : 0 ≤ p) (hp1 : p < M 24 25) (hx0 : 0 ≤ x) (hx1 : x ≤ 29) : Ret 3 0 0 mK_echoStart [.inr 1, .inl p, .inl x] (S0 N) M (Pu (S0 N) M (echS M p x)) := by
  have a := hP.1
  have bb := hP.2 p hp0 hp1
  have qq := hq.2 p hp0 hp1
  have H1 := t_handAt (N := N) (M := M) hp0 (show p < 6 by omega)
  have H2 := t_startAt (N := N) (M := M) hp0 (show p < 6 by omega)
  have H3 := t_lengthAt (N := N) (M := M) hp0 (show p < 6 by omega)
  rw [qq.2.1] at H1
  rw [qq.2.2.1] at H2
  rw [qq.2.2.2] at H3
  obtain ⟨b, k, w, n, hb⟩ := hc_of bb.2.1
  have P := t_playerOf (N := N) (M := M) hb
  have HI := hH _ _ _ _ _ hb
  have C := t_noteCount' (N := N) hb HI
  have cr := cnt_rng (fK M (M 44 p)) 30
  unfold echS
  generalize hc : cnt (fK M (M 44 p)) 30 = c at *
  generalize hi : M 45 p = i at *
  generalize hl : M 46 p = l at *
  generalize hg : M 44 p = g at *
  have E := fun (j : Int) (h0 : 0 ≤ j) (h1 : i + l ≤ c) (h2 : j + l ≤ c) => t_isEcho (N := N) hb HI hK (i := i) (j := j) (l := l) (by omega) h0 (by omega) (by rw [hc]; exact h1) (by rw [hc]; exact h2)
  rw [hc] at E
  have loop : ∀ (m : Nat) (j s : Int), i + l ≤ j → j + m = max c (i + l) → 0 ≤ s → s ≤ x → AJ 3 0 0 mK_echoStart (Pu (S0 N) M (eaV (ecP (kyF M g) c i l) m j (x - s))) 0 0 43 [some (.inr 1), some (.inl p), some (.inl x), some (.inr b), some (.inl i), some (.inl l), some (.inl s), some (.inl j)] [] (S0 N) M := by
    intro m
    induction m with
    | zero =>
      intro j s hj hm s0 s1
      rcases hb with ⟨rfl, rfl, rfl, rfl, rfl⟩ | ⟨rfl, rfl, rfl, rfl, rfl⟩
      all_goals
        refine aK_echoStart [] 40 (fun hM => ?_)
        refine CL.pu C (Nat.le_of_ble_eq_true rfl) ?_
        exact ⟨⟨by omega, by omega⟩, ite_i (fun q => pu_eq rfl) (fun q => by omega)⟩
    | succ m ih =>
      intro j s hj hm s0 s1
      have E1 := E j (by omega)
      rcases hb with ⟨rfl, rfl, rfl, rfl, rfl⟩ | ⟨rfl, rfl, rfl, rfl, rfl⟩
      all_goals
        refine aK_echoStart [43] 40 (fun hM => ?_)
        refine CL.pu C (Nat.le_of_ble_eq_true rfl) ?_
        refine ⟨⟨by omega, by omega⟩, ite_i (fun q => ?_) (fun q => ?_)⟩
        · exact pu_eq (eaV_no _ _ _ (fun y y1 y2 z => by have := z.2.1; omega)).symm
        · refine CL.bl (E1 (by omega) (by omega)) (Nat.le_of_ble_eq_true rfl) (fun q1 => ?_) (fun q1 => ?_)
          · refine ⟨R32_1, ⟨by omega, by omega⟩, ite_i (fun q2 => ?_) (fun q2 => ?_)⟩
            · exact pu_eq (by unfold eaV; rw [if_pos q1, if_pos (by omega)])
            · have h2 := ih (j + 1) (s + 1) (by omega) (by omega) (by omega) (by omega)
              rw [show x - (s + 1) = x - s - 1 by omega] at h2
              unfold eaV; rw [if_pos q1, if_neg (by omega)]
              exact h2
          · have h2 := ih (j + 1) s (by omega) (by omega) (by omega) (by omega)
            refine ⟨R32_0, ?_⟩
            unfold eaV; rw [if_neg q1]
            exact h2
  have L := loop (c - (i + l)).toNat (i + l) 0 (by omega) (by omega) (by omega) hx0
  rw [show x - 0 = x by omega] at L
  rcases hb with ⟨rfl, rfl, rfl, rfl, rfl⟩ | ⟨rfl, rfl, rfl, rfl, rfl⟩
  all_goals
    refine eK_echoStart [43] 40 (Nat.le_of_ble_eq_true rfl) (fun hM => ?_)
    refine CL.pu H1 (Nat.le_of_ble_eq_true rfl) (CL.pa P (Nat.le_of_ble_eq_true rfl) (CL.pu H2 (Nat.le_of_ble_eq_true rfl) (CL.pu H3 (Nat.le_of_ble_eq_true rfl) ?_)))
    exact L
theorem t_kindOf {m : Int} (hH : HI2 M) (h0 : 0 ≤ m) (h1 : m < 30) : Ret 2 0 0 mK_kindOf [.inr 1, .inl m] (S0 N) M (fun r S' M' => (∃ v, r = some (.inl v) ∧ (0 ≤ v ∧ v ≤ 4) ∧ ∀ w, 0 ≤ w → w ≤ 3 → (v = w ↔ soM M w m)) ∧ S' = S0 N ∧ M' = M) := by
  have e0 := ((hH 0 5 6 7 8 (Or.inl ⟨rfl, rfl, rfl, rfl, rfl⟩)).1 m h0 h1).1
  have e1 := ((hH 1 9 10 11 12 (Or.inr ⟨rfl, rfl, rfl, rfl, rfl⟩)).1 m h0 h1).1
  rw [show (30 : Int) * 0 + m = m by omega] at e0
  rw [show (30 : Int) * 1 + m = 30 + m by omega] at e1
  have K0 := t_keyAt (N := N) (M := M) (b := 5) (Or.inl rfl) h0 h1
  have K1 := t_keyAt (N := N) (M := M) (b := 9) (Or.inr rfl) h0 h1
  have K0' : Ret 1 0 0 mH_keyAt [.inr 5, .inl m] (S0 N) M (Pu (S0 N) M (M 25 m)) := K0.up e0
  have K1' : Ret 1 0 0 mH_keyAt [.inr 9, .inl m] (S0 N) M (Pu (S0 N) M (M 25 (30 + m))) := K1.up e1
  have fin : ∀ v : Int, (0 ≤ v ∧ v ≤ 4) → (∀ w, 0 ≤ w → w ≤ 3 → (v = w ↔ soM M w m)) → ((∃ v', (some (.inl v) : Option Vl) = some (.inl v') ∧ (0 ≤ v' ∧ v' ≤ 4) ∧ ∀ w, 0 ≤ w → w ≤ 3 → (v' = w ↔ soM M w m)) ∧ S0 N = S0 N ∧ M = M) := fun v a b => ⟨⟨v, rfl, a, b⟩, rfl, rfl⟩
  refine eK_kindOf [] 40 (Nat.le_of_ble_eq_true rfl) (fun hM => ?_)
  refine CL.pu K0' (Nat.le_of_ble_eq_true rfl) (CL.pu K1' (Nat.le_of_ble_eq_true rfl) ?_)
  refine ⟨⟨hM _ _, by decide⟩, ite_i (fun q1 => ?_) (fun q1 => ?_)⟩
  · refine ⟨⟨hM _ _, hM _ _⟩, ite_i (fun q2 => ?_) (fun q2 => ?_)⟩
    · exact fin 3 (by omega) (fun w w0 w1 => by constructor <;> intro _ <;> omega)
    · exact fin 2 (by omega) (fun w w0 w1 => by constructor <;> intro _ <;> omega)
  · refine ⟨⟨hM _ _, by decide⟩, ite_i (fun q2 => ?_) (fun q2 => ?_)⟩
    · refine ⟨⟨hM _ _, hM _ _⟩, ite_i (fun q3 => ?_) (fun q3 => ?_)⟩
      · exact fin 3 (by omega) (fun w w0 w1 => by constructor <;> intro _ <;> omega)
      · exact fin 2 (by omega) (fun w w0 w1 => by constructor <;> intro _ <;> omega)
    · refine ⟨⟨hM _ _, hM _ _⟩, ite_i (fun q3 => ?_) (fun q3 => ?_)⟩
      · exact fin 1 (by omega) (fun w w0 w1 => by constructor <;> intro _ <;> omega)
      · refine ⟨⟨hM _ _, hM _ _⟩, ite_i (fun q4 => ?_) (fun q4 => ?_)⟩
        · exact fin 0 (by omega) (fun w w0 w1 => by constructor <;> intro _ <;> omega)
        · exact fin 4 (by omega) (fun w w0 w1 => by constructor <;> intro _ <;> omega)
end Ks
