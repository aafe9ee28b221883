/-! ===== both sides agree: phrases ===== -/
/-- the reference's phrases are the same -/
def AgP (M M1 : Mm) : Prop := ∀ c j, (43 ≤ c ∧ c ≤ 46) ∨ (c = 24 ∧ j = 25) → M1 c j = M c j
section I5
variable {N : Nat} {M M1 M2 X : Mm} {h : Int}
theorem AgP.gs (ha : AgP M M1) (p : Int) : AgP (gsE M p) (gsE M1 p) := by
  intro c j q
  have e := ha 24 25 (by omega)
  by_cases z : c = 24 ∧ j = 25
  · obtain ⟨rfl, rfl⟩ := z; rw [gs_25, gs_25, e]
  · rw [gs_in (by omega), gs_in (by omega), e, ha c _ (by omega), ha c _ (by omega)]
theorem AgP.ph (ha : AgP M M1) (x : Int) : phV M1 x = phV M x := ph_congr (funext fun j => ha 43 j (by omega)) (ha 24 25 (by omega)) x
theorem AgP.p1 (ha : AgP M M1) (x : Int) : AgP (ph1 M x) (ph1 M1 x) := by
  unfold ph1
  rw [ha.ph x]
  split
  · exact ha
  · exact ha.gs _
theorem AgP.p2 (ha : AgP M M1) : AgP (ph2 M) (ph2 M1) := by
  unfold ph2
  rw [ha 24 25 (by omega)]
  split
  · exact ha.gs _
  · exact ha
theorem AgP.pA (ha : AgP M M1) (x d i n : Int) : AgP (phA M x d i n) (phA M1 x d i n) := by
  intro c j q
  have e := ha 24 25 (by omega)
  unfold phA
  rw [e]
  unfold mset
  rw [ha c j q]
theorem AgP.pr (d n : Int) : ∀ (p : Nat) (M M1 : Mm), AgP M M1 → AgP (prE d n p M) (prE d n p M1) := by
  intro p
  induction p with
  | zero => intro M M1 ha; exact ha
  | succ p ih =>
    intro M M1 ha
    unfold prE
    rw [ha 44 _ (by omega), ha 45 _ (by omega), ha 46 _ (by omega)]
    split
    · exact ih _ _ (ha.gs _)
    · exact ih _ _ ha
/-- what the reference's phrases may change -/
def FrP (M M1 : Mm) : Prop := ∀ c j, ¬ (43 ≤ c ∧ c ≤ 46) → ¬ (c = 24 ∧ j = 25) → M1 c j = M c j
def FrC (M M1 : Mm) : Prop := ∀ c j, ¬ (19 ≤ c ∧ c ≤ 23) → M1 c j = M c j
theorem fp_gs (p : Int) : FrP M (gsE M p) := fun c j q1 q2 => gs_fr q1 q2
theorem fp_tr (a : FrP M M1) (b : FrP M1 M2) : FrP M M2 := fun c j q1 q2 => by rw [b c j q1 q2, a c j q1 q2]
theorem fp_rf : FrP M M := fun _ _ _ _ => rfl
theorem fc_gs (p : Int) : FrC M (gsC M p) := fun c j q => gc_fr (by omega) (by omega)
theorem fc_tr (a : FrC M M1) (b : FrC M1 M2) : FrC M M2 := fun c j q => by rw [b c j q, a c j q]
theorem fc_rf : FrC M M := fun _ _ _ => rfl
theorem fp_p1 (x : Int) : FrP M (ph1 M x) := by unfold ph1; split; exact fp_rf; exact fp_gs _
theorem fp_p2 : FrP M (ph2 M) := by unfold ph2; split; exact fp_gs _; exact fp_rf
theorem fp_pA (x d i n : Int) : FrP M (phA M x d i n) := fun c j q1 q2 => by unfold phA; rw [mset_ne (by omega), mset_ne (by omega), mset_ne (by omega), mset_ne (by omega), mset_ne (by omega)]
theorem fc_p1 (x : Int) : FrC M (pc1 M x) := by
  unfold pc1
  split
  · exact fc_gs _
  · split
    · exact fc_gs _
    · exact fc_rf
theorem fc_pA (x d i n : Int) : FrC M (pcA M x d i n) := fun c j q => by unfold pcA; rw [mset_ne (by omega), mset_ne (by omega), mset_ne (by omega), mset_ne (by omega), mset_ne (by omega)]
theorem fp_pr (d n : Int) : ∀ (p : Nat) (M : Mm), FrP M (prE d n p M) := by
  intro p
  induction p with
  | zero => intro M; exact fp_rf
  | succ p ih =>
    intro M
    unfold prE
    split
    · exact fp_tr (fp_gs _) (ih _)
    · exact ih _
theorem fc_pr (d n : Int) : ∀ (p : Nat) (M : Mm), FrC M (prC d n p M) := by
  intro p
  induction p with
  | zero => intro M; exact fc_rf
  | succ p ih =>
    intro M
    unfold prC
    split
    · exact fc_tr (fc_gs _) (ih _)
    · exact ih _
theorem FrC.ag (hf : FrC M M1) : AgP M M1 := fun c j q => hf c j (by omega)
theorem inv_ph (hV : Inv M) (f1 : FrC M M1) (f2 : FrP M1 M2) (hP : PhI M2) (hq : PQ X M1) (ha : AgP X M2) : Inv M2 ∧ ∀ j, M2 0 j = M 0 j := by
  have g : ∀ c j, ¬ (19 ≤ c ∧ c ≤ 23) → ¬ (43 ≤ c ∧ c ≤ 46) → ¬ (c = 24 ∧ j = 25) → M2 c j = M c j := fun c j q1 q2 q3 => by rw [f2 c j q2 q3, f1 c j q1]
  have gc : ∀ c, c ≠ 24 → ¬ (19 ≤ c ∧ c ≤ 23) → ¬ (43 ≤ c ∧ c ≤ 46) → M2 c = M c := fun c q1 q2 q3 => funext fun j => g c j q2 q3 (by omega)
  have ce : CE M M2 := ⟨gc _ (by omega) (by omega) (by omega), gc _ (by omega) (by omega) (by omega), gc _ (by omega) (by omega) (by omega), gc _ (by omega) (by omega) (by omega), gc _ (by omega) (by omega) (by omega), gc _ (by omega) (by omega) (by omega), gc _ (by omega) (by omega) (by omega), gc _ (by omega) (by omega) (by omega), gc _ (by omega) (by omega) (by omega)⟩
  refine ⟨⟨hV.1.ce ce ⟨gc _ (by omega) (by omega) (by omega), gc _ (by omega) (by omega) (by omega)⟩, hV.2.1.keep hV.1 ce (fun c j q => g c j (by omega) (by omega) (by omega)), hP, hV.2.2.2.1.keep (fun c j q => g c j (by omega) (by omega) (by omega)), ?_⟩, fun j => g 0 j (by omega) (by omega) (by omega)⟩
  exact (hq.fl (ha 24 25 (by omega)) (fun c j q1 q2 => ha c j (by omega))).fr (fun c j q1 q2 => f2 c j (by omega) (by omega))
theorem p_forget {a : Int} (hV : Inv M) (ha : R32 a) : Pair N M 2 2 mK_forget mM_forget [.inl a] := by
  refine ⟨_, k_forget ha hV.2.2.2.2 hV.2.2.1, ?_⟩
  rintro r S' M1 ⟨rfl, rfl, rfl⟩
  have pr := phV_rng hV.2.2.1 a
  by_cases q : phV M a = -9
  · rw [if_pos q]
    refine ⟨_, rfl, rfl, fun _ => rfl, _, z_forget ha hV.2.2.1, ?_⟩
    rintro r' S'' M2 ⟨rfl, rfl, rfl⟩
    rw [if_pos q]
    exact ⟨rfl, rfl, hV, fun _ => rfl⟩
  · rw [if_neg q]
    have f1 := fc_gs (M := M) (phV M a)
    have ep := f1.ag.ph a
    have e25 := f1.ag 24 25 (by omega)
    have hP1 : PhI (gsC M (phV M a)) := hV.2.2.1.keep (fun c j z => f1 c j (by omega))
    refine ⟨_, rfl, rfl, fun j => f1 0 j (by omega), _, z_forget ha hP1, ?_⟩
    rintro r' S'' M2 ⟨rfl, rfl, rfl⟩
    rw [ep, if_neg q]
    have V := inv_ph hV f1 (fp_gs (phV M a)) (hP1.gs (by omega) (by omega)) (hV.2.2.2.2.gs (by omega)) (f1.ag.gs (phV M a))
    refine ⟨?_, rfl, V.1, V.2⟩
    unfold forgetV
    rw [ep, e25]
theorem p_prune {a : Int} (hV : Inv M) (ha : R32 a) : Pair N M 3 2 mK_prune mM_prune [.inl a] := by
  refine ⟨_, k_prune ha hV.2.2.2.2 hV.2.2.1 hV.2.2.2.1, ?_⟩
  rintro r S' M1 ⟨rfl, rfl, rfl⟩
  have a25 := hV.2.2.1.1
  by_cases q : isH a
  · rw [if_pos q]
    have f1 := fc_pr a (cnt (fK M a) 30) (M 24 25).toNat M
    have e25 := f1.ag 24 25 (by omega)
    have ec : cnt (fK (prC a (cnt (fK M a) 30) (M 24 25).toNat M) a) 30 = cnt (fK M a) 30 := cnt_fr (fun j => f1 25 j (by omega))
    have Q := PQ.pr (h := a) (n := cnt (fK M a) 30) (M 24 25).toNat M M hV.2.2.2.2 (by omega)
    have hP1 : PhI (prC a (cnt (fK M a) 30) (M 24 25).toNat M) := hV.2.2.1.keep (fun c j z => f1 c j (by omega))
    generalize prC a (cnt (fK M a) 30) (M 24 25).toNat M = M1 at *
    refine ⟨_, rfl, rfl, fun j => f1 0 j (by omega), _, z_prune ha hP1, ?_⟩
    rintro r' S'' M2 ⟨rfl, rfl, rfl⟩
    rw [if_pos q, ec, e25]
    have ag := AgP.pr a (cnt (fK M a) 30) (M 24 25).toNat M M1 f1.ag
    have V := inv_ph hV f1 (fp_pr a (cnt (fK M a) 30) (M 24 25).toNat M1) (prE_ok (M 24 25).toNat M1 hP1 (by omega)).1 Q ag
    refine ⟨?_, rfl, V.1, V.2⟩
    unfold pruneV
    rw [if_pos q, if_pos q, ec, e25, ag 24 25 (by omega)]
  · rw [if_neg q]
    refine ⟨_, rfl, rfl, fun _ => rfl, _, z_prune ha hV.2.2.1, ?_⟩
    rintro r' S'' M2 ⟨rfl, rfl, rfl⟩
    rw [if_neg q]
    exact ⟨rfl, rfl, hV, fun _ => rfl⟩
theorem PhI.pA {x d i n : Int} (hP : PhI M) (h5 : M 24 25 ≤ 5) (ok : phraseK x d i n) : PhI (phA M x d i n) := by
  have e : phA M x d i n 24 25 = M 24 25 + 1 := mset_eq ..
  have g : ∀ c p, 43 ≤ c → c ≤ 46 → p ≠ M 24 25 → phA M x d i n c p = M c p := fun c p q1 q2 q3 => by unfold phA; rw [mset_ne (by omega), mset_ne (by omega), mset_ne (by omega), mset_ne (by omega), mset_ne (by omega)]
  have a := hP.1
  obtain ⟨k1, k2, k3, k4⟩ := ok
  unfold PhI
  rw [e]
  refine ⟨by omega, fun p q1 q2 => ?_⟩
  by_cases z : p = M 24 25
  · subst z
    have e3 : phA M x d i n 43 (M 24 25) = x := by unfold phA; rw [mset_ne (by omega), mset_ne (by omega), mset_ne (by omega), mset_ne (by omega), mset_eq]
    have e4 : phA M x d i n 44 (M 24 25) = d := by unfold phA; rw [mset_ne (by omega), mset_ne (by omega), mset_ne (by omega), mset_eq]
    have e5 : phA M x d i n 45 (M 24 25) = i := by unfold phA; rw [mset_ne (by omega), mset_ne (by omega), mset_eq]
    have e6 : phA M x d i n 46 (M 24 25) = n := by unfold phA; rw [mset_ne (by omega), mset_eq]
    rw [e3, e4, e5, e6]
    omega
  · rw [g 43 p (by omega) (by omega) z, g 44 p (by omega) (by omega) z, g 45 p (by omega) (by omega) z, g 46 p (by omega) (by omega) z]
    exact hP.2 p q1 (by omega)
theorem p_phrase {a b c d : Int} (hV : Inv M) (ha : R32 a) (hb : R32 b) (hc : R32 c) (hd : R32 d) : Pair N M 3 2 mK_phrase mM_phrase [.inl a, .inl b, .inl c, .inl d] := by
  refine ⟨_, k_phrase ha hb hc hd hV.2.2.2.2 hV.2.2.1, ?_⟩
  rintro r S' M1 ⟨rfl, rfl, rfl⟩
  by_cases q : phraseK a b c d
  · rw [if_pos q]
    have f1 := fc_tr (fc_p1 (M := M) a) (fc_pA a b c d)
    have Q := (hV.2.2.2.2.p1 hV.2.2.1 a).pA a b c d
    have hP1 : PhI (pcA (pc1 M a) a b c d) := hV.2.2.1.keep (fun c j z => f1 c j (by omega))
    generalize pcA (pc1 M a) a b c d = M1 at *
    refine ⟨_, rfl, rfl, fun j => f1 0 j (by omega), _, z_phrase ha hb hc hd hP1, ?_⟩
    rintro r' S'' M2 ⟨rfl, rfl, rfl⟩
    rw [if_pos q]
    have p2 := (hP1.p1 a).p2
    have V := inv_ph hV f1 (M2 := phraseE M1 a b c d) (fp_tr (fp_tr (fp_p1 a) fp_p2) (fp_pA a b c d)) (p2.1.pA p2.2 q) Q (((f1.ag.p1 a).p2).pA a b c d)
    refine ⟨?_, rfl, V.1, V.2⟩
    unfold phraseV
    rw [((f1.ag.p1 a).p2) 24 25 (by omega)]
  · rw [if_neg q]
    refine ⟨_, rfl, rfl, fun _ => rfl, _, z_phrase ha hb hc hd hV.2.2.1, ?_⟩
    rintro r' S'' M2 ⟨rfl, rfl, rfl⟩
    rw [if_neg q]
    exact ⟨rfl, rfl, hV, fun _ => rfl⟩
end I5
