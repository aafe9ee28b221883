/-! ===== both sides agree: what is kept ===== -/
def Inv (M : Mm) : Prop := MI M ∧ ChI M ∧ PhI M ∧ HI2 M ∧ PQ M M
/-- a call of the class and the same call of the reference -/
def Pair (N : Nat) (M : Mm) (dk dm yk ym : Nat) (as : List Vl) : Prop :=
  ∃ Φ1 : Option Vl → Ly → Mm → Prop, Ret dk 0 0 yk (.inr 1 :: as) (S0 N) M Φ1 ∧ ∀ r S' M1, Φ1 r S' M1 → ∃ v, r = some (.inl v) ∧ S' = S0 N ∧ (∀ j, M1 0 j = M 0 j) ∧ ∃ Φ2 : Option Vl → Ly → Mm → Prop, Ret dm 0 0 ym (.inr 24 :: as) (S0 N) M1 Φ2 ∧ ∀ r' S'' M2, Φ2 r' S'' M2 → r' = some (.inl v) ∧ S'' = S0 N ∧ Inv M2 ∧ ∀ j, M2 0 j = M 0 j
section Iv
variable {N : Nat} {M M1 M2 : Mm} {h : Int}
theorem ChI.keep (hC : ChI M) (hI : MI M) (hc : CE M M1) (hf : ∀ c j, (c = 24 ∧ (j = 18 ∨ j = 19)) ∨ c = 38 ∨ c = 39 → M1 c j = M c j) : ChI M1 := by
  obtain ⟨c0, c1⟩ := hC
  unfold ChI
  rw [hf 24 18 (by omega), hf 24 19 (by omega)]
  refine ⟨?_, ?_⟩
  · rcases c0 with z | ⟨z, kp⟩
    · exact Or.inl z
    · exact Or.inr ⟨z, kp.ce hc (Or.inl rfl) hI (hf 38 _ (by omega)) (fun k _ _ => hf 39 _ (by omega))⟩
  · rcases c1 with z | ⟨z, kp⟩
    · exact Or.inl z
    · exact Or.inr ⟨z, kp.ce hc (Or.inr rfl) hI (hf 38 _ (by omega)) (fun k _ _ => hf 39 _ (by omega))⟩
/-- all but scratch is as it was -/
def FrI (M M' : Mm) : Prop := ∀ c j, (c ≤ 12 ∨ (19 ≤ c ∧ c ≤ 23) ∨ (25 ≤ c ∧ c ≤ 30) ∨ 40 ≤ c ∨ (c = 24 ∧ j = 25)) → M' c j = M c j
theorem FrI.ce (hf : FrI M M1) : CE M M1 := ⟨by funext j; exact hf _ _ (by omega), by funext j; exact hf _ _ (by omega), by funext j; exact hf _ _ (by omega), by funext j; exact hf _ _ (by omega), by funext j; exact hf _ _ (by omega), by funext j; exact hf _ _ (by omega), by funext j; exact hf _ _ (by omega), by funext j; exact hf _ _ (by omega), by funext j; exact hf _ _ (by omega)⟩
theorem PhI.keep (hP : PhI M) (hf : ∀ c j, (43 ≤ c ∧ c ≤ 46) ∨ (c = 24 ∧ j = 25) → M1 c j = M c j) : PhI M1 := by
  unfold PhI at *
  rw [hf 24 25 (by omega)]
  refine ⟨hP.1, fun p q1 q2 => ?_⟩
  rw [hf 43 p (by omega), hf 44 p (by omega), hf 45 p (by omega), hf 46 p (by omega)]
  exact hP.2 p q1 q2
theorem PQ.keep (hq : PQ M M) (hf : ∀ c j, (19 ≤ c ∧ c ≤ 23) ∨ (43 ≤ c ∧ c ≤ 46) ∨ (c = 24 ∧ j = 25) → M1 c j = M c j) : PQ M1 M1 := (hq.fr (fun c j q1 q2 => hf c j (by omega))).fl (hf 24 25 (by omega)) (fun c j q1 q2 => hf c j (by omega))
theorem HI2.keep (hH : HI2 M) (hf : ∀ c j, (5 ≤ c ∧ c ≤ 12) ∨ c = 25 ∨ c = 26 ∨ (40 ≤ c ∧ c ≤ 42) → M1 c j = M c j) : HI2 M1 := fun h b k w n hb => hn_keep hb (hH h b k w n hb) (fun c j q => hf c j (by omega)) (fun i _ _ => hf 25 _ (by omega)) (fun i q1 q2 => by rw [hf w i (by omega), hf 26 _ (by omega)]; exact ((hH h b k w n hb).1 i q1 q2).2)
theorem Inv.keep (hV : Inv M) (hf : FrI M M1) (hC : ChI M1) : Inv M1 := by
  obtain ⟨a, _, c, d, e⟩ := hV
  exact ⟨a.ce hf.ce ⟨by funext j; exact hf _ _ (by omega), by funext j; exact hf _ _ (by omega)⟩, hC, c.keep (fun c j q => hf c j (by omega)), d.keep (fun c j q => hf c j (by omega)), e.keep (fun c j q => hf c j (by omega))⟩
theorem Inv.frR (hV : Inv M) (hf : FrR M M1) : Inv M1 := hV.keep (fun c j q => hf c j (by omega)) (hV.2.1.keep hV.1 hf.ce (fun c j q => hf c j (by omega)))
theorem Inv.ak (hV : Inv M) (ha : Ak M M1) : Inv M1 ∧ ∀ j, M1 0 j = M 0 j := ⟨hV.keep (fun c j q => ha.1 c j (by omega)) ha.2, fun j => ha.1 0 j (by omega)⟩
/-- nothing is changed by either -/
theorem pair_uu {dk dm yk ym : Nat} {as : List Vl} {v : Int} (hV : Inv M) (h1 : Ret dk 0 0 yk (.inr 1 :: as) (S0 N) M (Pu (S0 N) M v)) (h2 : Ret dm 0 0 ym (.inr 24 :: as) (S0 N) M (Pu (S0 N) M v)) : Pair N M dk dm yk ym as := by
  refine ⟨_, h1, ?_⟩
  rintro r S' M1 ⟨rfl, rfl, rfl⟩
  refine ⟨v, rfl, rfl, fun _ => rfl, _, h2, ?_⟩
  rintro r' S'' M2 ⟨rfl, rfl, rfl⟩
  exact ⟨rfl, rfl, hV, fun _ => rfl⟩
theorem pair_ua {dk dm yk ym : Nat} {as : List Vl} {v : Int} (hV : Inv M) (h1 : Ret dk 0 0 yk (.inr 1 :: as) (S0 N) M (Pu (S0 N) M v)) (h2 : Ret dm 0 0 ym (.inr 24 :: as) (S0 N) M (fun r S' M' => r = some (.inl v) ∧ S' = S0 N ∧ Ak M M')) : Pair N M dk dm yk ym as := by
  refine ⟨_, h1, ?_⟩
  rintro r S' M1 ⟨rfl, rfl, rfl⟩
  refine ⟨v, rfl, rfl, fun _ => rfl, _, h2, ?_⟩
  rintro r' S'' M2 ⟨rfl, rfl, f3⟩
  exact ⟨rfl, rfl, (hV.ak f3).1, (hV.ak f3).2⟩
theorem pair_ra {dk dm yk ym : Nat} {as : List Vl} {v : Int} (hV : Inv M) (h1 : Ret dk 0 0 yk (.inr 1 :: as) (S0 N) M (fun r S' M' => r = some (.inl v) ∧ S' = S0 N ∧ FrR M M')) (h2 : ∀ M1, FrR M M1 → Ret dm 0 0 ym (.inr 24 :: as) (S0 N) M1 (fun r S' M' => r = some (.inl v) ∧ S' = S0 N ∧ Ak M1 M')) : Pair N M dk dm yk ym as :=
  ⟨_, h1, fun r S' M1 ⟨e1, e2, e3⟩ => ⟨v, e1, e2, fun j => e3 0 j (by omega), _, h2 M1 e3, fun r' S'' M2 ⟨f1, f2, f3⟩ => ⟨f1, f2, ((hV.frR e3).ak f3).1, fun j => by rw [((hV.frR e3).ak f3).2 j]; exact e3 0 j (by omega)⟩⟩⟩
/-! calls that change nothing -/
theorem p_reachOf {a b c : Int} (hV : Inv M) (ha : R32 a) (hb : R32 b) (hc : R32 c) : Pair N M 2 2 mK_reachOf mM_reachOf [.inl a, .inl b, .inl c] := pair_uu hV (k_reachOf ha hb hc hV.1.1) (z_reachOf ha hb hc)
theorem p_note {a b c : Int} (hV : Inv M) (ha : R32 a) (hb : R32 b) (hc : R32 c) : Pair N M 2 2 mK_note mM_note [.inl a, .inl b, .inl c] := pair_uu hV (k_note ha hb hc hV.2.2.2.1 hV.1.2.1) (z_note ha hb hc hV.1.2.1)
theorem p_costs {a b : Int} (hV : Inv M) (ha : R32 a) (hb : R32 b) : Pair N M 2 2 mK_costs mM_costs [.inl a, .inl b] := pair_uu hV (k_costs hb ha hV.1.1) (z_costs hb ha hV.1.1)
theorem p_step {a b c d e : Int} (hV : Inv M) (ha : R32 a) (hb : R32 b) (hc : R32 c) (hd : R32 d) (he : R32 e) : Pair N M 3 2 mK_step mM_step [.inl a, .inl b, .inl c, .inl d, .inl e] := pair_uu hV (k_step ha hb hc hd he hV.1.1 hV.2.2.2.1) (z_step ha hb hc hd he hV.1.1)
theorem p_name {a : Int} (hV : Inv M) (ha : R32 a) : Pair N M 2 2 mK_name mM_name [.inl a] := pair_uu hV (k_name ha hV.2.2.2.2 hV.2.2.1) (z_name ha)
theorem p_echo {a b c : Int} (hV : Inv M) (ha : R32 a) (hb : R32 b) (hc : R32 c) : Pair N M 4 2 mK_echo mM_echo [.inl a, .inl b, .inl c] := pair_ua hV (k_echo ha hb hc hV.2.2.2.2 hV.2.2.1 hV.2.2.2.1 hV.1.2.1) (z_echo ha hb hc hV.2.2.1 hV.1 hV.2.1)
theorem p_moment {a b : Int} (hV : Inv M) (ha : R32 a) (hb : R32 b) : Pair N M 3 1 mK_moment mM_moment [.inl a, .inl b] := pair_uu hV (k_moment ha hb hV.2.2.2.1) (z_moment ha hb hV.1.2.1)
theorem p_many {a : Int} (hV : Inv M) (ha : R32 a) : Pair N M 4 2 mK_many mM_many [.inl a] := pair_uu hV (k_many ha hV.2.2.2.1 hV.2.2.2.2 hV.1.2.2) (z_many ha hV.1)
/-! calls that ask for rows -/
theorem frR_best (hV : Inv M) (hf : FrR M M1) : bestV M1 h = bestV M h := by
  unfold bestV
  by_cases q : h = 0 ∨ h = 1
  · rw [if_pos q, if_pos q]; exact ce_bst hf.ce q hV.1
  · rw [if_neg q, if_neg q]
theorem p_best {a : Int} (hV : Inv M) (ha : R32 a) : Pair N M 6 11 mK_best mM_best [.inl a] := pair_ra hV (k_best ha hV.2.2.2.1 hV.1) (fun M1 hf => by
  have := z_best (N := N) ha (hV.frR hf).1 (hV.frR hf).2.1
  rw [frR_best hV hf] at this
  exact this)
theorem p_would {a b c : Int} (hV : Inv M) (ha : R32 a) (hb : R32 b) (hc : R32 c) : Pair N M 6 11 mK_would mM_would [.inl a, .inl b, .inl c] := pair_ra hV (k_would ha hb hc hV.2.2.2.1 hV.1) (fun M1 hf => by
  have := z_would (N := N) ha hb hc (hV.frR hf).1 (hV.frR hf).2.1
  have e : wouldV M1 a b c = wouldV M a b c := by
    unfold wouldV
    rw [ce_fK hf.ce]
    by_cases q : (a = 0 ∨ a = 1) ∧ (0 ≤ b ∧ b < cnt (fK M a) 30) ∧ 1 ≤ c ∧ c ≤ 5
    · rw [if_pos q, if_pos q]
      have hO := LM_ok (M := M) q.1 hV.1.1 hV.1.2.1
      have d := ce_LM hf.ce a
      have d' : DEq (mset (LM M a) 32 b (shlI 1 c)) (mset (LM M1 a) 32 b (shlI 1 c)) := by
        obtain ⟨d1, d2, d3, d4, d5, d6, d7, d8, d9⟩ := d
        have f : ∀ (A : Mm) (cc : Nat), cc ≠ 32 → (mset A 32 b (shlI 1 c)) cc = A cc := fun A cc q => by funext j; exact mset_ne (by omega)
        refine ⟨?_, ?_, ?_, ?_, ?_, ?_, ?_, ?_, ?_⟩
        · rw [f _ 24 (by omega), f _ 24 (by omega)]; exact d1
        · rw [f _ 24 (by omega), f _ 24 (by omega)]; exact d2
        · rw [f _ 24 (by omega), f _ 24 (by omega)]; exact d3
        · rw [f _ 24 (by omega), f _ 24 (by omega)]; exact d4
        · rw [f _ 24 (by omega), f _ 31 (by omega), f _ 31 (by omega)]
          intro k q1 q2
          refine ⟨(d5 k q1 q2).1, ?_⟩
          by_cases hk : k = b
          · subst hk; rw [mset_eq, mset_eq]
          · rw [mset_ne (by omega), mset_ne (by omega)]; exact (d5 k q1 q2).2
        · rw [f _ 27 (by omega), f _ 27 (by omega)]; exact d6
        · rw [f _ 28 (by omega), f _ 28 (by omega)]; exact d7
        · rw [f _ 29 (by omega), f _ 29 (by omega)]; exact d8
        · rw [f _ 30 (by omega), f _ 30 (by omega)]; exact d9
      have ht := LM_tie (M := M) q.1 hV.1.2.2
      refine de_lrV d' ?_ ?_
      · rcases ht with ht | ht
        · left; rw [mset_ne (by omega)]; exact ht
        · right
          unfold TOk at *
          rw [mset_ne (by omega), mset_ne (by omega), mset_ne (by omega), mset_ne (by omega)]; exact ht
      · rw [mset_ne (by omega)]; exact hO.2.2.1
    · rw [if_neg q, if_neg q]
  rw [e] at this
  exact this)
theorem p_tied {a : Int} (hV : Inv M) (ha : R32 a) : Pair N M 6 10 mK_tied mM_tied [.inl a] := pair_ra hV (k_tied ha hV.2.2.2.1 hV.1) (fun M1 hf => by
  have := z_tied (N := N) ha (hV.frR hf).1 (hV.frR hf).2.1
  have e : tiedV M1 a = tiedV M a := by
    unfold tiedV
    by_cases q : a = 0 ∨ a = 1
    · rw [if_pos q, if_pos q, ce_bst hf.ce q hV.1, frR_plain q hf hV.1]
    · rw [if_neg q, if_neg q]
  rw [e] at this
  exact this)
theorem p_sum (hV : Inv M) : Pair N M 6 11 mK_sum mM_sum [] := ⟨_, k_sum hV.2.2.2.1 hV.1, fun r S' M1 ⟨e1, e2, e3, _⟩ => ⟨_, e1, e2, fun j => e3 0 j (by omega), _, z_sum (hV.frR e3).1 (hV.frR e3).2.1, fun r' S'' M2 ⟨f1, f2, f3⟩ => ⟨by rw [f1, ce_sum e3.ce hV.1], f2, ((hV.frR e3).ak f3).1, fun j => by rw [((hV.frR e3).ak f3).2 j]; exact e3 0 j (by omega)⟩⟩⟩
theorem p_stuck {a : Int} (hV : Inv M) (ha : R32 a) : Pair N M 6 10 mK_stuck mM_stuck [.inl a] := ⟨_, k_stuck ha hV.2.2.2.1 hV.1, fun r S' M1 ⟨⟨v, e1, e0⟩, e2, e3⟩ => ⟨v, e1, e2, fun j => e3 0 j (by omega), _, z_stuck ha (hV.frR e3).1 (hV.frR e3).2.1, fun r' S'' M2 ⟨⟨u, f1, f0⟩, f2, f3⟩ => ⟨by
    rw [f1]
    have : u = v := by
      unfold StkV at e0 f0
      by_cases q : a = 0 ∨ a = 1
      · rw [if_pos q] at e0 f0
        rw [ce_bst e3.ce q hV.1] at f0
        by_cases q2 : bst M a = -9
        · rw [if_pos q2] at e0 f0
          have f0' := frR_stp e3 f0
          have cr := cnt_rng (fK M a) 30
          exact StP.uniq (by omega) (fun i _ _ => Iff.rfl) f0' e0
        · rw [if_neg q2] at e0 f0; rw [e0, f0]
      · rw [if_neg q] at e0 f0; rw [e0, f0]
    rw [this], f2, ((hV.frR e3).ak f3).1, fun j => by rw [((hV.frR e3).ak f3).2 j]; exact e3 0 j (by omega)⟩⟩⟩
theorem p_finger {a b : Int} (hV : Inv M) (ha : R32 a) (hb : R32 b) : Pair N M 7 11 mK_finger mM_finger [.inl a, .inl b] := ⟨_, k_finger ha hb hV.2.2.2.1 hV.1, fun r S' M1 ⟨⟨v, e1, e0⟩, e2, e3⟩ => ⟨v, e1, e2, fun j => e3 0 j (by omega), _, z_finger ha hb (hV.frR e3).1 (hV.frR e3).2.1, fun r' S'' M2 ⟨⟨u, f1, f0⟩, f2, f3⟩ => ⟨by
    rw [f1]
    have : u = v := by
      unfold FgV at f0
      rw [ce_fK e3.ce] at f0
      by_cases q : (a = 0 ∨ a = 1) ∧ 0 ≤ b ∧ b < cnt (fK M a) 30
      · rw [if_pos q] at e0 f0
        unfold bfV at e0
        rw [ce_bst e3.ce q.1 hV.1] at f0
        by_cases q2 : bst M a = -9
        · rw [if_pos q2] at e0 f0; rw [e0, f0]
        · rw [if_neg q2] at e0 f0
          obtain ⟨p, p1, p2, p3⟩ := e0
          obtain ⟨p', p1', p2', p3'⟩ := f0
          have ht := LM_tie (M := M) q.1 hV.1.2.2
          have h7 : LM M a 24 7 = cnt (fK M a) 30 := LM_7
          have d := ce_LM e3.ce a
          have h7' : LM M1 a 24 7 = cnt (fK M a) 30 := by rw [d.2.1]; exact h7
          have br := de_BR d.symm (tie_de d ht) (by omega) (fun k z1 z2 => p1' k z1 (by omega)) p2'
          have := BR.uniq ht p2 br b q.2.1 (by omega)
          rw [p3, p3', this]
      · rw [if_neg q] at e0 f0; rw [e0, f0]
    rw [this], f2, ((hV.frR e3).ak f3).1, fun j => by rw [((hV.frR e3).ak f3).2 j]; exact e3 0 j (by omega)⟩⟩⟩
theorem hp_congr {s t : Int → Int} : ∀ (n : Nat) (m f b : Int), (∀ i, m ≤ i → i < m + n → s i = t i) → hpL s n m f b = hpL t n m f b := by
  intro n
  induction n with
  | zero => intro m f b _; rfl
  | succ n ih =>
    intro m f b h
    unfold hpL
    rw [h m (by omega) (by omega), ih (m + 1) m _ (fun i q1 q2 => h i (by omega) (by omega)), ih (m + 1) f b (fun i q1 q2 => h i (by omega) (by omega))]
theorem frH_help {a : Int} (hI : MI M) (hf : FrH M M1) : helpV M1 a = helpV M a := by
  have eh : hpV M1 = hpV M := by
    unfold hpV
    rw [ce_sum hf.ce hI]
    exact hp_congr 30 0 (-9) _ (fun i q1 q2 => ce_sum (ce_sw hf.ce i) (hI.sw q1 (by omega)))
  unfold helpV
  rw [eh]
theorem FrH.chi (hV : Inv M) (hf : FrH M M1) : ChI M1 := hV.2.1.keep hV.1 hf.ce (fun c j q => hf c j (by omega))
theorem p_help {a : Int} (hV : Inv M) (ha : R32 a) : Pair N M 7 11 mK_help mM_help [.inl a] := ⟨_, k_help ha hV.2.2.2.1 hV.1, fun r S' M1 ⟨e1, e2, e4, e3⟩ => by
    have hI1 := hV.1.frH e3
    have hC1 := e3.chi hV
    have hV1 : Inv M1 := ⟨hI1, hC1, hV.2.2.1.keep (fun c j q => e3 c j (by omega)), e4, hV.2.2.2.2.keep (fun c j q => e3 c j (by omega))⟩
    refine ⟨_, e1, e2, fun j => e3 0 j (by omega), _, z_help ha hI1 hC1, fun r' S'' M2 ⟨f1, f2, f3⟩ => ⟨?_, f2, (hV1.ak f3).1, fun j => by rw [(hV1.ak f3).2 j]; exact e3 0 j (by omega)⟩⟩
    have e : helpV M1 a = helpV M a := frH_help hV.1 e3
    rw [f1, e]⟩
end Iv
