/-! ===== the class: moment, echo, tieEcho, many, exchange ===== -/
theorem ctE_split {E : Int → Prop} [DecidablePred E] (a : Nat) : ∀ b : Nat, ctE E (a + b) = ctE E a + ctE (fun j => E (a + j)) b := by
  intro b
  induction b with
  | zero => show ctE E a = ctE E a + 0; omega
  | succ b ih =>
    have e1 : ctE E (a + (b + 1)) = ctE E (a + b) + (if E ((a + b : Nat) : Int) then 1 else 0) := rfl
    have e2 : ctE (fun j => E (a + j)) (b + 1) = ctE (fun j => E (a + j)) b + (if E ((a : Int) + (b : Int)) then 1 else 0) := rfl
    rw [e1, e2, ih, show (((a + b : Nat)) : Int) = (a : Int) + (b : Int) by omega]
    omega
section Kt
variable {N : Nat} {M : Mm} {h : Int}
theorem t_countOf {w : Int} (hH : HI2 M) (hw : 0 ≤ w ∧ w ≤ 3) : Ret 3 0 0 mK_countOf [.inr 1, .inl w] (S0 N) M (Pu (S0 N) M (ctE (soM M w) 30)) := by
  have loop : ∀ (n i : Nat), i + n = 30 → AJ 3 0 0 mK_countOf (Pu (S0 N) M (ctE (soM M w) 30)) 0 0 4 [some (.inr 1), some (.inl w), some (.inl (ctE (soM M w) i)), some (.inl i)] [] (S0 N) M := by
    intro n
    induction n with
    | zero =>
      intro i hi
      have : i = 30 := by omega
      subst this
      refine aK_countOf [] 40 (fun hM => ?_)
      exact ⟨by decide, pu_eq rfl⟩
    | succ n ih =>
      intro i hi
      have ar := ctE_rng (E := soM M w) i
      have h2 := ih (i + 1) (by omega)
      rw [show ((i + 1 : Nat) : Int) = (i : Int) + 1 by omega] at h2
      have ea : ctE (soM M w) (i + 1) = ctE (soM M w) i + (if soM M w i then 1 else 0) := rfl
      rw [ea] at h2
      refine aK_countOf [4] 40 (fun hM => ?_)
      refine ⟨by omega, ite_i (fun q => ?_) (fun q => by omega)⟩
      refine ⟨2, _, (Nat.le_of_ble_eq_true rfl), t_kindOf hH (by omega) (by omega), ?_⟩
      rintro r S' M' ⟨⟨v, rfl, vr, vs⟩, rfl, rfl⟩ hM'
      have vw := vs w hw.1 hw.2
      refine ⟨⟨by omega, by omega⟩, ite_i (fun q3 => ?_) (fun q3 => ?_)⟩
      · rw [if_pos (vw.mp q3)] at h2; exact h2
      · rw [if_neg (fun z => q3 (vw.mpr z)), Int.add_zero] at h2; exact h2
  refine eK_countOf [4] 40 (Nat.le_of_ble_eq_true rfl) (fun hM => ?_)
  exact loop 30 0 (by omega)
theorem k_moment {k w : Int} (hk : R32 k) (hw : R32 w) (hH : HI2 M) : Ret 3 0 0 mK_moment [.inr 1, .inl k, .inl w] (S0 N) M (Pu (S0 N) M (momentV M k w)) := by
  have bad : ¬ ((0 ≤ k ∧ k ≤ 29) ∧ 0 ≤ w ∧ w ≤ 3) → Pu (S0 N) M (momentV M k w) (some (.inl (-2))) (S0 N) M := fun q => pu_eq (by unfold momentV; rw [if_neg q])
  refine eK_moment [26] 40 (Nat.le_of_ble_eq_true rfl) (fun hM => ?_)
  refine CL.bl (t_isBelow hk (by decide)) (Nat.le_of_ble_eq_true rfl) (fun q1 => ?_) (fun q1 => ?_)
  · refine ⟨R32_1, hw, ite_i (fun q2 => ?_) (fun q2 => ?_)⟩
    · exact bad (by omega)
    · refine ⟨⟨hw, by decide⟩, ite_i (fun q3 => ?_) (fun q3 => ?_)⟩
      · exact bad (by omega)
      · have ev : momentV M k w = eaV (soM M w) 30 0 k := by unfold momentV; rw [if_pos (by omega)]
        rw [ev]
        have loop : ∀ (n : Nat) (j s : Int), 0 ≤ j → j + n = 30 → 0 ≤ s → s ≤ k → AJ 3 0 0 mK_moment (Pu (S0 N) M (eaV (soM M w) n j (k - s))) 0 0 26 [some (.inr 1), some (.inl k), some (.inl w), some (.inl s), some (.inl j)] [] (S0 N) M := by
          intro n
          induction n with
          | zero =>
            intro j s hj hn h0 h1
            refine aK_moment [] 40 (fun hM => ?_)
            exact ⟨by omega, ite_i (fun q => by omega) (fun q => pu_eq rfl)⟩
          | succ n ih =>
            intro j s hj hn h0 h1
            refine aK_moment [26] 40 (fun hM => ?_)
            refine ⟨by omega, ite_i (fun q => ?_) (fun q => by omega)⟩
            refine ⟨2, _, (Nat.le_of_ble_eq_true rfl), t_kindOf hH (by omega) (by omega), ?_⟩
            rintro r S' M' ⟨⟨v, rfl, vr, vs⟩, rfl, rfl⟩ hM'
            have vw := vs w (by omega) (by omega)
            refine ⟨⟨by omega, by omega⟩, ite_i (fun q4 => ?_) (fun q4 => ?_)⟩
            · refine ⟨⟨by omega, by omega⟩, ite_i (fun q5 => ?_) (fun q5 => ?_)⟩
              · exact pu_eq (by unfold eaV; rw [if_pos (vw.mp q4), if_pos (by omega)])
              · have h2 := ih (j + 1) (s + 1) (by omega) (by omega) (by omega) (by omega)
                rw [show k - (s + 1) = k - s - 1 by omega] at h2
                unfold eaV; rw [if_pos (vw.mp q4), if_neg (by omega)]
                exact h2
            · have h2 := ih (j + 1) s (by omega) (by omega) (by omega) (by omega)
              unfold eaV; rw [if_neg (fun z => q4 (vw.mpr z))]
              exact h2
        have L := loop 30 0 0 (by omega) (by omega) (by omega) (by omega)
        rw [show k - 0 = k by omega] at L
        exact L
  · exact ⟨R32_0, bad (by omega)⟩
theorem k_echo {x k v : Int} (hx : R32 x) (hk : R32 k) (hv : R32 v) (hq : PQ M M) (hP : PhI M) (hH : HI2 M) (hK : KyI M) : Ret 4 0 0 mK_echo [.inr 1, .inl x, .inl k, .inl v] (S0 N) M (Pu (S0 N) M (echoV M x k v)) := by
  have pr := phV_rng hP x
  have a := hP.1
  have c := hq.1
  have P := t_placeOf (N := N) (M := M) hx (by omega) (by omega)
  rw [hq.ph] at P
  refine eK_echo [] 60 (Nat.le_of_ble_eq_true rfl) (fun hM => ?_)
  refine CL.pu P (Nat.le_of_ble_eq_true rfl) ?_
  refine ⟨by omega, ite_i (fun q => ?_) (fun q => ?_)⟩
  · exact pu_eq (by unfold echoV; rw [if_pos q])
  · have bad : ¬ ((0 ≤ k ∧ k ≤ 29) ∧ 0 ≤ v ∧ v ≤ 1) → Pu (S0 N) M (echoV M x k v) (some (.inl (-2))) (S0 N) M := fun z => pu_eq (by unfold echoV; rw [if_neg q, if_neg z])
    refine CL.bl (t_isBelow hk (by decide)) (Nat.le_of_ble_eq_true rfl) (fun q1 => ?_) (fun q1 => ?_)
    · refine ⟨R32_1, hv, ite_i (fun q2 => ?_) (fun q2 => ?_)⟩
      · exact bad (by omega)
      · refine ⟨⟨hv, by decide⟩, ite_i (fun q3 => ?_) (fun q3 => ?_)⟩
        · exact bad (by omega)
        · have ok : (0 ≤ k ∧ k ≤ 29) ∧ 0 ≤ v ∧ v ≤ 1 := by omega
          have p0 : 0 ≤ phV M x := by omega
          have p1 : phV M x < M 24 25 := by omega
          have bb := hP.2 _ p0 p1
          have qq := hq.2 _ p0 p1
          have er := echS_rng hP p0 p1 k
          have cr := cnt_rng (fK M (M 44 (phV M x))) 30
          refine CL.pu (t_echoStart hq hP hH hK p0 p1 ok.1.1 ok.1.2) (Nat.le_of_ble_eq_true rfl) ?_
          refine ⟨by omega, ite_i (fun q4 => ?_) (fun q4 => ?_)⟩
          · exact pu_eq (by unfold echoV; rw [if_neg q, if_pos ok, if_pos (Or.inl q4)])
          · refine ⟨hv, ite_i (fun q5 => ?_) (fun q5 => ?_)⟩
            · exact pu_eq (by unfold echoV; rw [if_neg q, if_pos ok, if_pos (Or.inr q5)])
            · have H1 := t_handAt (N := N) (M := M) p0 (show phV M x < 6 by omega)
              have H2 := t_startAt (N := N) (M := M) p0 (show phV M x < 6 by omega)
              have H3 := t_lengthAt (N := N) (M := M) p0 (show phV M x < 6 by omega)
              rw [qq.2.1] at H1
              rw [qq.2.2.1] at H2
              rw [qq.2.2.2] at H3
              obtain ⟨b, kk, w, n, hb⟩ := hc_of bb.2.1
              have Pl := t_playerOf (N := N) (M := M) hb
              have Lk := t_likeness (N := N) hb (hH _ _ _ _ _ hb) hK (i := M 45 (phV M x)) (j := echS M (phV M x) k) (l := M 46 (phV M x)) (by omega) (by omega) (by omega) (by omega) (by omega)
              have ev : alk (kyF M (M 44 (phV M x))) (M 45 (phV M x)) (echS M (phV M x) k) (M 46 (phV M x)).toNat = echoV M x k v := by unfold echoV; rw [if_neg q, if_pos ok, if_neg (by omega)]
              rw [ev] at Lk
              refine CL.pu H1 (Nat.le_of_ble_eq_true rfl) (CL.pa Pl (Nat.le_of_ble_eq_true rfl) ?_)
              have hB : b = 5 ∨ b = 9 := by omega
              clear hb
              rcases hB with rfl | rfl
              all_goals
                refine CL.pu H2 (Nat.le_of_ble_eq_true rfl) (CL.pu H3 (Nat.le_of_ble_eq_true rfl) (CL.pu Lk (Nat.le_of_ble_eq_true rfl) ?_))
                exact pu_eq rfl
    · exact ⟨R32_0, bad (by omega)⟩
theorem k_tieEcho {x k : Int} (hx : R32 x) (hk : R32 k) (hq : PQ M M) (hP : PhI M) (hH : HI2 M) (hK : KyI M) : Ret 4 0 0 mK_tieEcho [.inr 1, .inl x, .inl k] (S0 N) M (fun r S' M' => r = some (.inl (tieEchoV M x k)) ∧ S' = S0 N ∧ (tieEchoK M x k → oH (M 44 (phV M x)) (fun b _ _ _ => M' = mset (mset (mset M b 5 (M 45 (phV M x))) b 6 (echS M (phV M x) k)) b 7 (M 46 (phV M x)))) ∧ (¬ tieEchoK M x k → M' = M)) := by
  have pr := phV_rng hP x
  have a := hP.1
  have c := hq.1
  have P := t_placeOf (N := N) (M := M) hx (by omega) (by omega)
  rw [hq.ph] at P
  refine eK_tieEcho [] 60 (Nat.le_of_ble_eq_true rfl) (fun hM => ?_)
  refine CL.pu P (Nat.le_of_ble_eq_true rfl) ?_
  refine ⟨by omega, ite_i (fun q => ?_) (fun q => ?_)⟩
  · exact ⟨by unfold tieEchoV; rw [if_pos q], rfl, fun z => absurd q z.1, fun _ => rfl⟩
  · refine CL.bl (t_isBelow hk (by decide)) (Nat.le_of_ble_eq_true rfl) (fun q1 => ?_) (fun q1 => ?_)
    · have p0 : 0 ≤ phV M x := by omega
      have p1 : phV M x < M 24 25 := by omega
      have bb := hP.2 _ p0 p1
      have qq := hq.2 _ p0 p1
      have er := echS_rng hP p0 p1 k
      have cr := cnt_rng (fK M (M 44 (phV M x))) 30
      refine ⟨R32_1, CL.pu (t_echoStart hq hP hH hK p0 p1 q1.1 (by omega)) (Nat.le_of_ble_eq_true rfl) ?_⟩
      refine ⟨by omega, ite_i (fun q4 => ?_) (fun q4 => ?_)⟩
      · exact ⟨by unfold tieEchoV; rw [if_neg q, if_pos (by omega), if_pos q4], rfl, fun z => absurd q4 z.2.2, fun _ => rfl⟩
      · have ok : tieEchoK M x k := ⟨q, by omega, q4⟩
        have H1 := t_handAt (N := N) (M := M) p0 (show phV M x < 6 by omega)
        have H2 := t_startAt (N := N) (M := M) p0 (show phV M x < 6 by omega)
        have H3 := t_lengthAt (N := N) (M := M) p0 (show phV M x < 6 by omega)
        rw [qq.2.1] at H1
        rw [qq.2.2.1] at H2
        rw [qq.2.2.2] at H3
        obtain ⟨b, kk, w, n, hb⟩ := hc_of bb.2.1
        have Pl := t_playerOf (N := N) (M := M) hb
        have G := t_setTie (N := N) (M := M) (i := M 45 (phV M x)) (j := echS M (phV M x) k) (n := M 46 (phV M x)) (hc_b hb) (by omega) (by omega) (by omega)
        have fin : (fun (r : Option Vl) (S' : Ly) (M' : Mm) => r = some (.inl (tieEchoV M x k)) ∧ S' = S0 N ∧ (tieEchoK M x k → oH (M 44 (phV M x)) (fun b _ _ _ => M' = mset (mset (mset M b 5 (M 45 (phV M x))) b 6 (echS M (phV M x) k)) b 7 (M 46 (phV M x)))) ∧ (¬ tieEchoK M x k → M' = M)) (some (.inl 1)) (S0 N) (mset (mset (mset M b 5 (M 45 (phV M x))) b 6 (echS M (phV M x) k)) b 7 (M 46 (phV M x))) := ⟨by unfold tieEchoV; rw [if_neg q, if_pos (by omega), if_neg q4], rfl, fun _ => oH_of (P := fun b' _ _ _ => mset (mset (mset M b 5 (M 45 (phV M x))) b 6 (echS M (phV M x) k)) b 7 (M 46 (phV M x)) = mset (mset (mset M b' 5 (M 45 (phV M x))) b' 6 (echS M (phV M x) k)) b' 7 (M 46 (phV M x))) hb rfl, fun z => absurd ok z⟩
        refine CL.pu H1 (Nat.le_of_ble_eq_true rfl) (CL.pa Pl (Nat.le_of_ble_eq_true rfl) ?_)
        have hB : b = 5 ∨ b = 9 := by omega
        clear hb
        rcases hB with rfl | rfl
        all_goals
          refine CL.pu H2 (Nat.le_of_ble_eq_true rfl) (CL.pu H3 (Nat.le_of_ble_eq_true rfl) (CL.vo G (Nat.le_of_ble_eq_true rfl) (fun hM2 => ?_)))
          exact fin
    · exact ⟨R32_0, by unfold tieEchoV; rw [if_neg q, if_neg (by omega)], rfl, fun z => absurd z.2.1 (by omega), fun _ => rfl⟩
end Kt
