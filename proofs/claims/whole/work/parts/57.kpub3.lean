/-! ===== the class: ties and phrases ===== -/
section Kr
variable {N : Nat} {M : Mm} {h : Int}
theorem k_tie {i j l : Int} (hr : R32 h) (hi : R32 i) (hj : R32 j) (hl : R32 l) (hH : HI2 M) : Ret 2 0 0 mK_tie [.inr 1, .inl h, .inl i, .inl j, .inl l] (S0 N) M (fun r S' M' => r = some (.inl (tieV M h i j l)) ∧ S' = S0 N ∧ (tieK h i j l → oH h (fun b k w n => M' = mset (mset (mset M b 5 i) b 6 j) b 7 l)) ∧ (¬ tieK h i j l → M' = M)) := by
  refine eK_tie [54] 60 (Nat.le_of_ble_eq_true rfl) (fun hM => ?_)
  refine CL.bl (t_isHand hr) (Nat.le_of_ble_eq_true rfl) (fun q1 => ?_) (fun q1 => ?_)
  · have bad : ¬ tieK h i j l → (fun (r : Option Vl) (S' : Ly) (M' : Mm) => r = some (.inl (tieV M h i j l)) ∧ S' = S0 N ∧ (tieK h i j l → oH h (fun b k w n => M' = mset (mset (mset M b 5 i) b 6 j) b 7 l)) ∧ (¬ tieK h i j l → M' = M)) (some (.inl (-2))) (S0 N) M := fun q => ⟨by unfold tieV; rw [if_pos q1, if_neg q], rfl, fun z => absurd z q, fun _ => rfl⟩
    have go : tieK h i j l → AJ 2 0 0 mK_tie (fun r S' M' => r = some (.inl (tieV M h i j l)) ∧ S' = S0 N ∧ (tieK h i j l → oH h (fun b k w n => M' = mset (mset (mset M b 5 i) b 6 j) b 7 l)) ∧ (¬ tieK h i j l → M' = M)) 0 0 54 [some (.inr 1), some (.inl h), some (.inl i), some (.inl j), some (.inl l)] [] (S0 N) M := by
      intro ok
      obtain ⟨b, k, w, n, hb⟩ := hc_of q1
      have P := t_playerOf (N := N) (M := M) hb
      have G := t_setTie (N := N) (M := M) (hc_b hb) hi hj hl
      have e4 : (mset (mset (mset M b 5 i) b 6 j) b 7 l) b 4 = cnt (fK M h) 30 := by rw [mset_ne (by omega), mset_ne (by omega), mset_ne (by omega)]; exact (hH _ _ _ _ _ hb).2.1
      have e6 : (mset (mset (mset M b 5 i) b 6 j) b 7 l) b 6 = j := by rw [mset_ne (by omega), mset_eq]
      have e7 : (mset (mset (mset M b 5 i) b 6 j) b 7 l) b 7 = l := mset_eq ..
      have T := t_tieHolds (N := N) (M := mset (mset (mset M b 5 i) b 6 j) b 7 l) (hc_b hb) (fun _ => by rw [e6, e7]; have := ok.2; omega)
      have et : bi (0 < (mset (mset (mset M b 5 i) b 6 j) b 7 l) b 7 ∧ (mset (mset (mset M b 5 i) b 6 j) b 7 l) b 6 + (mset (mset (mset M b 5 i) b 6 j) b 7 l) b 7 ≤ (mset (mset (mset M b 5 i) b 6 j) b 7 l) b 4) = bi (j + l ≤ cnt (fK M h) 30) := by
        rw [e4, e6, e7]
        have := ok.2
        by_cases q : j + l ≤ cnt (fK M h) 30
        · rw [bi_t q, bi_t (by omega)]
        · rw [bi_f q, bi_f (by omega)]
      rw [et] at T
      have hb0 := hb
      rcases hb with ⟨rfl, rfl, rfl, rfl, rfl⟩ | ⟨rfl, rfl, rfl, rfl, rfl⟩
      all_goals
        refine aK_tie [] 30 (fun hM => ?_)
        refine CL.pa P (Nat.le_of_ble_eq_true rfl) (CL.vo G (Nat.le_of_ble_eq_true rfl) (fun hM2 => CL.bl T (Nat.le_of_ble_eq_true rfl) (fun q2 => ?_) (fun q2 => ?_)))
        · exact ⟨R32_1, by unfold tieV; rw [if_pos q1, if_pos ok, bi_t q2], rfl, fun _ => oH_of hb0 rfl, fun z => absurd ok z⟩
        · exact ⟨R32_0, by unfold tieV; rw [if_pos q1, if_pos ok, bi_f q2], rfl, fun _ => oH_of hb0 rfl, fun z => absurd ok z⟩
    refine ⟨R32_1, hi, ite_i (fun q2 => ?_) (fun q2 => ?_)⟩
    · exact bad (by omega)
    · refine ⟨⟨hi, by decide⟩, ite_i (fun q3 => ?_) (fun q3 => ?_)⟩
      · exact bad (by omega)
      · refine ⟨⟨hj, by decide⟩, ite_i (fun q4 => ?_) (fun q4 => ?_)⟩
        · exact bad (by omega)
        · refine ⟨⟨hj, by decide⟩, ite_i (fun q5 => ?_) (fun q5 => ?_)⟩
          · refine ⟨⟨hl, by decide⟩, ite_i (fun q6 => ?_) (fun q6 => ?_)⟩
            · exact bad (by omega)
            · refine ⟨⟨hl, by decide⟩, ite_i (fun q7 => ?_) (fun q7 => ?_)⟩
              · exact bad (by omega)
              · refine ⟨⟨by omega, hj⟩, ite_i (fun q8 => ?_) (fun q8 => ?_)⟩
                · exact bad (by omega)
                · exact go (by omega)
          · exact bad (by omega)
  · exact ⟨R32_0, by unfold tieV; rw [if_neg q1], rfl, fun z => absurd z.1 q1, fun _ => rfl⟩
theorem k_phrase {x i l : Int} (hx : R32 x) (hr : R32 h) (hi : R32 i) (hl : R32 l) (hq : PQ M M) (hP : PhI M) : Ret 3 0 0 mK_phrase [.inr 1, .inl x, .inl h, .inl i, .inl l] (S0 N) M (Pv (S0 N) (if phraseK x h i l then pcA (pc1 M x) x h i l else M) (phraseV M x h i l)) := by
  refine eK_phrase [44] 60 (Nat.le_of_ble_eq_true rfl) (fun hM => ?_)
  refine CL.bl (t_isHand hr) (Nat.le_of_ble_eq_true rfl) (fun q1 => ?_) (fun q1 => ?_)
  · have bad : ¬ phraseK x h i l → Pv (S0 N) (if phraseK x h i l then pcA (pc1 M x) x h i l else M) (phraseV M x h i l) (some (.inl (-2))) (S0 N) M := fun q => pv_eq (by unfold phraseV; rw [if_pos q1, if_neg q]) (by rw [if_neg q])
    have go : phraseK x h i l → AJ 3 0 0 mK_phrase (Pv (S0 N) (if phraseK x h i l then pcA (pc1 M x) x h i l else M) (phraseV M x h i l)) 0 0 44 [some (.inr 1), some (.inl x), some (.inl h), some (.inl i), some (.inl l)] [] (S0 N) M := by
      intro ok
      have e : (pcA (pc1 M x) x h i l) 19 4 = phraseV M x h i l := by
        unfold phraseV
        rw [if_pos q1, if_pos ok, ← (hq.p1 hP x).1]
        exact mset_eq ..
      refine aK_phrase [] 40 (fun hM => ?_)
      refine CL.vo (t_come hx hr hi hl hq hP) (Nat.le_of_ble_eq_true rfl) (fun hM2 => ?_)
      refine CL.pu t_size (Nat.le_of_ble_eq_true rfl) (pv_eq e ?_)
      rw [if_pos ok]
    refine ⟨R32_1, CL.bl (t_isBelow hx (by decide)) (Nat.le_of_ble_eq_true rfl) (fun q2 => ?_) (fun q2 => ?_)⟩
    · refine ⟨R32_1, hi, ite_i (fun q3 => ?_) (fun q3 => ?_)⟩
      · exact bad (by omega)
      · refine ⟨⟨hi, by decide⟩, ite_i (fun q4 => ?_) (fun q4 => ?_)⟩
        · exact bad (by omega)
        · refine ⟨⟨hl, by decide⟩, ite_i (fun q5 => ?_) (fun q5 => ?_)⟩
          · exact bad (by omega)
          · refine ⟨⟨hl, by decide⟩, ite_i (fun q6 => ?_) (fun q6 => ?_)⟩
            · exact bad (by omega)
            · exact go (by omega)
    · exact ⟨R32_0, bad (by omega)⟩
  · exact ⟨R32_0, pv_eq (by unfold phraseV; rw [if_neg q1]) (by rw [if_neg (fun z => q1 z.1)])⟩
theorem k_forget {x : Int} (hx : R32 x) (hq : PQ M M) (hP : PhI M) : Ret 2 0 0 mK_forget [.inr 1, .inl x] (S0 N) M (Pv (S0 N) (if phV M x = -9 then M else gsC M (phV M x)) (forgetV M x)) := by
  have pr := phV_rng hP x
  have a := hP.1
  have c := hq.1
  have P := t_placeOf (N := N) (M := M) hx (by omega) (by omega)
  rw [hq.ph] at P
  refine eK_forget [] 30 (Nat.le_of_ble_eq_true rfl) (fun hM => ?_)
  refine CL.pu P (Nat.le_of_ble_eq_true rfl) ?_
  refine ⟨by omega, ite_i (fun q => ?_) (fun q => ?_)⟩
  · exact pv_eq (by unfold forgetV; rw [if_pos q]) (by rw [if_pos q])
  · refine CL.vo (t_drop (by omega) (by omega) (by omega)) (Nat.le_of_ble_eq_true rfl) (fun hM2 => ?_)
    refine CL.pu t_size (Nat.le_of_ble_eq_true rfl) (pv_eq ?_ (by rw [if_neg q]))
    unfold forgetV; rw [if_neg q, gc_4, c]
theorem k_name {k : Int} (hk : R32 k) (hq : PQ M M) (hP : PhI M) : Ret 2 0 0 mK_name [.inr 1, .inl k] (S0 N) M (Pu (S0 N) M (nameV M k)) := by
  have a := hP.1
  have c := hq.1
  refine eK_name [] 30 (Nat.le_of_ble_eq_true rfl) (fun hM => ?_)
  refine CL.bl (t_isBelow hk (by decide)) (Nat.le_of_ble_eq_true rfl) (fun q => ?_) (fun q => ?_)
  · refine ⟨R32_1, CL.pu (t_nameAt q.1 q.2) (Nat.le_of_ble_eq_true rfl) (pu_eq ?_)⟩
    unfold nameV
    rw [c, if_pos (show 0 ≤ k ∧ k ≤ 5 by omega)]
    by_cases q2 : k < M 24 25
    · rw [if_pos q2, if_pos q2]; exact (hq.2 k q.1 q2).1
    · rw [if_neg q2, if_neg q2]
  · exact ⟨R32_0, pu_eq (by unfold nameV; rw [if_neg (by omega)])⟩
theorem k_prune (hr : R32 h) (hq : PQ M M) (hP : PhI M) (hH : HI2 M) : Ret 3 0 0 mK_prune [.inr 1, .inl h] (S0 N) M (Pv (S0 N) (if isH h then prC h (cnt (fK M h) 30) (M 24 25).toNat M else M) (pruneV M h)) := by
  have cr := cnt_rng (fK M h) 30
  have a := hP.1
  have c := hq.1
  refine eK_prune [] 40 (Nat.le_of_ble_eq_true rfl) (fun hM => ?_)
  refine CL.bl (t_isHand hr) (Nat.le_of_ble_eq_true rfl) (fun q1 => ?_) (fun q1 => ?_)
  · obtain ⟨b, k, w, n, hb⟩ := hc_of q1
    have P := t_playerOf (N := N) (M := M) hb
    have C := t_noteCount' (N := N) hb (hH _ _ _ _ _ hb)
    have D := t_dropLonger (N := N) q1 (n := cnt (fK M h) 30) (by omega) hq hP
    rw [c] at D
    have e := (PQ.pr (h := h) (n := cnt (fK M h) 30) (M 24 25).toNat M M hq (by omega)).1
    rw [e] at D
    have ev : M 24 25 - prE h (cnt (fK M h) 30) (M 24 25).toNat M 24 25 = pruneV M h := by unfold pruneV; rw [if_pos q1]
    rw [ev] at D
    rcases hb with ⟨rfl, rfl, rfl, rfl, rfl⟩ | ⟨rfl, rfl, rfl, rfl, rfl⟩
    all_goals
      refine ⟨R32_1, CL.pa P (Nat.le_of_ble_eq_true rfl) (CL.pu C (Nat.le_of_ble_eq_true rfl) ?_)⟩
      refine ⟨2, _, (Nat.le_of_ble_eq_true rfl), D, ?_⟩
      rintro r S' M' ⟨rfl, rfl, rfl⟩ hM'
      exact pv_eq rfl (by rw [if_pos (by omega)])
  · exact ⟨R32_0, pv_eq (by unfold pruneV; rw [if_neg q1]) (by rw [if_neg q1])⟩
end Kr
