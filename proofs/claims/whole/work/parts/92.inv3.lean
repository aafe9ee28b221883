/-! ===== both sides agree: reach, ties, clear, swap ===== -/
section I3
variable {N : Nat} {M M1 M2 A : Mm} {h : Int}
theorem p_reach {a b c d e : Int} (hV : Inv M) (ha : R32 a) (hb : R32 b) (hc : R32 c) (hd : R32 d) (he : R32 e) : Pair N M 2 2 mK_reach mM_reach [.inl a, .inl b, .inl c, .inl d, .inl e] := by
  refine ⟨_, k_reach ha hb hc hd he, ?_⟩
  rintro r S' M1 ⟨rfl, rfl, rfl⟩
  by_cases q : reachK a b c d e
  · rw [if_pos q]
    have o1 : ∀ c' j, c' ≠ 4 → (mset (mset (mset M 4 (rp a b) c) 4 (rp a b + 1) d) 4 (rp a b + 2) e) c' j = M c' j := fun c' j z => by rw [mset_ne (by omega), mset_ne (by omega), mset_ne (by omega)]
    have o : ∀ c' j, c' ≠ 4 → ¬ (27 ≤ c' ∧ c' ≤ 29) → reachE (mset (mset (mset M 4 (rp a b) c) 4 (rp a b + 1) d) 4 (rp a b + 2) e) a b c d e c' j = M c' j := fun c' j z1 z2 => by
      unfold reachE; rw [mset_ne (by omega), mset_ne (by omega), mset_ne (by omega), o1 c' j z1]
    have r4 : ∀ j, reachE (mset (mset (mset M 4 (rp a b) c) 4 (rp a b + 1) d) 4 (rp a b + 2) e) a b c d e 4 j = (mset (mset (mset M 4 (rp a b) c) 4 (rp a b + 1) d) 4 (rp a b + 2) e) 4 j := fun j => by
      unfold reachE; rw [mset_ne (by omega), mset_ne (by omega), mset_ne (by omega)]
    have H : Inv (chg (reachE (mset (mset (mset M 4 (rp a b) c) 4 (rp a b + 1) d) 4 (rp a b + 2) e) a b c d e)) := by
      refine inv_chg ⟨⟨fun k k0 k1 => ?_, fun f g f1 f2 f3 => ?_⟩, hV.1.2.1.keep (fun c' j z => o c' j (by omega) (by omega)), ?_⟩ (hV.2.2.1.keep (fun c' j z => o c' j (by omega) (by omega))) (hV.2.2.2.1.keep (fun c' j z => o c' j (by omega) (by omega))) (hV.2.2.2.2.keep (fun c' j z => o c' j (by omega) (by omega)))
      · rw [o 3 _ (by omega) (by omega), o 30 _ (by omega) (by omega)]; exact hV.1.1.1 k k0 k1
      · rw [r4, r4, r4]
        have B := hV.1.1.2 f g f1 f2 f3
        rcases rp_inj f1 f2 f3 q.1.1.1 q.2.2 q.1.2.2 with ⟨z1, z2, z3⟩ | z | z
        · subst z2; subst z3
          have e0 : (mset (mset (mset M 4 (rp f g) c) 4 (rp f g + 1) d) 4 (rp f g + 2) e) 4 (rp f g) = c := by rw [mset_ne (by omega), mset_ne (by omega), mset_eq]
          have e1 : (mset (mset (mset M 4 (rp f g) c) 4 (rp f g + 1) d) 4 (rp f g + 2) e) 4 (rp f g + 1) = d := by rw [mset_ne (by omega), mset_eq]
          have e2 : (mset (mset (mset M 4 (rp f g) c) 4 (rp f g + 1) d) 4 (rp f g + 2) e) 4 (rp f g + 2) = e := mset_eq ..
          have g0 : reachE (mset (mset (mset M 4 (rp f g) c) 4 (rp f g + 1) d) 4 (rp f g + 2) e) f g c d e 27 (10 * f + g) = c := by unfold reachE; rw [mset_ne (by omega), mset_ne (by omega), mset_eq]
          have g1 : reachE (mset (mset (mset M 4 (rp f g) c) 4 (rp f g + 1) d) 4 (rp f g + 2) e) f g c d e 28 (10 * f + g) = d := by unfold reachE; rw [mset_ne (by omega), mset_eq]
          have g2 : reachE (mset (mset (mset M 4 (rp f g) c) 4 (rp f g + 1) d) 4 (rp f g + 2) e) f g c d e 29 (10 * f + g) = e := by unfold reachE; rw [mset_eq]
          rw [e0, e1, e2, g0, g1, g2]
          have := q.2.1
          omega
        · have e0 : ∀ x, 0 ≤ x → x ≤ 2 → (mset (mset (mset M 4 (rp a b) c) 4 (rp a b + 1) d) 4 (rp a b + 2) e) 4 (rp f g + x) = M 4 (rp f g + x) := fun x x0 x1 => by rw [mset_ne (by omega), mset_ne (by omega), mset_ne (by omega)]
          have e00 := e0 0 (by omega) (by omega)
          rw [Int.add_zero] at e00
          rw [e00, e0 1 (by omega) (by omega), e0 2 (by omega) (by omega)]
          have ne : ¬ (f = a ∧ g = b) := fun y => by rw [y.1, y.2] at z; omega
          unfold reachE
          rw [mset_ne (by omega), mset_ne (by omega), mset_ne (by omega), o1 27 _ (by omega), mset_ne (by omega), mset_ne (by omega), mset_ne (by omega), o1 28 _ (by omega), mset_ne (by omega), mset_ne (by omega), mset_ne (by omega), o1 29 _ (by omega)]
          exact B
        · have e0 : ∀ x, 0 ≤ x → x ≤ 2 → (mset (mset (mset M 4 (rp a b) c) 4 (rp a b + 1) d) 4 (rp a b + 2) e) 4 (rp f g + x) = M 4 (rp f g + x) := fun x x0 x1 => by rw [mset_ne (by omega), mset_ne (by omega), mset_ne (by omega)]
          have e00 := e0 0 (by omega) (by omega)
          rw [Int.add_zero] at e00
          rw [e00, e0 1 (by omega) (by omega), e0 2 (by omega) (by omega)]
          have ne : ¬ (f = a ∧ g = b) := fun y => by rw [y.1, y.2] at z; omega
          unfold reachE
          rw [mset_ne (by omega), mset_ne (by omega), mset_ne (by omega), o1 27 _ (by omega), mset_ne (by omega), mset_ne (by omega), mset_ne (by omega), o1 28 _ (by omega), mset_ne (by omega), mset_ne (by omega), mset_ne (by omega), o1 29 _ (by omega)]
          exact B
      · intro x hx
        rw [o 40 _ (by omega) (by omega), o 41 _ (by omega) (by omega), o 42 _ (by omega) (by omega)]
        exact hV.1.2.2 x hx
    refine ⟨_, rfl, rfl, fun j => o1 0 j (by omega), _, z_reach ha hb hc hd he, ?_⟩
    rintro r' S'' M2 ⟨rfl, rfl, rfl⟩
    exact ⟨rfl, rfl, by rw [if_pos q]; exact H, fun j => by rw [if_pos q, chg_o (by omega), o 0 j (by omega) (by omega)]⟩
  · rw [if_neg q]
    refine ⟨_, rfl, rfl, fun _ => rfl, _, z_reach ha hb hc hd he, ?_⟩
    rintro r' S'' M2 ⟨rfl, rfl, rfl⟩
    rw [if_neg q]
    exact ⟨rfl, rfl, hV, fun _ => rfl⟩
/-- a tie, on both sides -/
theorem tie_inv {b k w n : Nat} {i j l : Int} {Ma : Mm} (hV : Inv M) (hb : isHC h b k w n) (ht : 0 ≤ i ∧ i ≤ 28 ∧ 1 ≤ l ∧ l ≤ 15 ∧ i + l ≤ j ∧ j ≤ 29) (hf : FrM (mset (mset (mset M b 5 i) b 6 j) b 7 l) Ma) : Inv (chg (tieE Ma h i j l)) ∧ ∀ x, chg (tieE Ma h i j l) 0 x = M 0 x := by
  have hh := hc_h hb
  have o1 : ∀ c' x, c' ≠ b → ¬ scM c' x → Ma c' x = M c' x := fun c' x z1 z2 => by rw [hf c' x z2, mset_ne (by omega), mset_ne (by omega), mset_ne (by omega)]
  have o : ∀ c' x, c' ≠ b → ¬ scM c' x → ¬ (40 ≤ c' ∧ c' ≤ 42) → tieE Ma h i j l c' x = M c' x := fun c' x z1 z2 z3 => by
    unfold tieE; rw [mset_ne (by omega), mset_ne (by omega), mset_ne (by omega), o1 c' x z1 z2]
  have tb : ∀ x, tieE Ma h i j l b x = (mset (mset (mset M b 5 i) b 6 j) b 7 l) b x := fun x => by
    unfold tieE; rw [mset_ne (by omega), mset_ne (by omega), mset_ne (by omega), hf b x (by omega)]
  have t40 : ∀ x, tieE Ma h i j l 40 x = if x = h then i else M 40 x := fun x => by
    unfold tieE; rw [mset_ne (by omega), mset_ne (by omega)]
    by_cases z : x = h
    · subst z; rw [if_pos rfl, mset_eq]
    · rw [if_neg z, mset_ne (by omega), o1 40 x (by omega) (by omega)]
  have t41 : ∀ x, tieE Ma h i j l 41 x = if x = h then j else M 41 x := fun x => by
    unfold tieE; rw [mset_ne (by omega)]
    by_cases z : x = h
    · subst z; rw [if_pos rfl, mset_eq]
    · rw [if_neg z, mset_ne (by omega), mset_ne (by omega), o1 41 x (by omega) (by omega)]
  have t42 : ∀ x, tieE Ma h i j l 42 x = if x = h then l else M 42 x := fun x => by
    unfold tieE
    by_cases z : x = h
    · subst z; rw [if_pos rfl, mset_eq]
    · rw [if_neg z, mset_ne (by omega), mset_ne (by omega), mset_ne (by omega), o1 42 x (by omega) (by omega)]
  refine ⟨inv_chg ⟨hV.1.1.fr (fun c hc => by funext x; exact o c x (by omega) (by omega) (by omega)), hV.1.2.1.keep (fun c x z => o c x (by omega) (by omega) (by omega)), ?_⟩ (hV.2.2.1.keep (fun c x z => o c x (by omega) (by omega) (by omega))) (hi2_of hb ?_ ?_) (hV.2.2.2.2.keep (fun c x z => o c x (by omega) (by omega) (by omega))), fun x => by rw [chg_o (by omega), o 0 x (by omega) (by omega) (by omega)]⟩
  · intro x hx
    rw [t40, t41, t42]
    by_cases z : x = h
    · rw [if_pos z, if_pos z, if_pos z]; omega
    · rw [if_neg z, if_neg z, if_neg z]; exact hV.1.2.2 x hx
  · obtain ⟨i1, i2, i3, i4, i5⟩ := hV.2.2.2.1 _ _ _ _ _ hb
    have fe : fK (tieE Ma h i j l) h = fK M h := by funext m; exact o 25 _ (by omega) (by omega) (by omega)
    have b4 : tieE Ma h i j l b 4 = M b 4 := by rw [tb, mset_ne (by omega), mset_ne (by omega), mset_ne (by omega)]
    have b0 : tieE Ma h i j l b 0 = M b 0 := by rw [tb, mset_ne (by omega), mset_ne (by omega), mset_ne (by omega)]
    have b5 : tieE Ma h i j l b 5 = i := by rw [tb, mset_ne (by omega), mset_ne (by omega), mset_eq]
    have b6 : tieE Ma h i j l b 6 = j := by rw [tb, mset_ne (by omega), mset_eq]
    have b7 : tieE Ma h i j l b 7 = l := by rw [tb, mset_eq]
    unfold HnI
    rw [fe, t40, t41, t42, if_pos rfl, if_pos rfl, if_pos rfl, b4, b0, b5, b6, b7]
    refine ⟨fun m m0 m1 => ?_, i2, fun m m0 m1 => ?_, i4, Or.inr ⟨by omega, rfl, rfl, rfl⟩⟩
    · rw [o k m (by omega) (by omega) (by omega), o w m (by omega) (by omega) (by omega), o 25 _ (by omega) (by omega) (by omega), o 26 _ (by omega) (by omega) (by omega)]; exact i1 m m0 m1
    · rw [o n m (by omega) (by omega) (by omega)]; exact i3 m m0 m1
  · intro h' b' k' w' n' hb' ne
    have I := hV.2.2.2.1 _ _ _ _ _ hb'
    have hh' := hc_h hb'
    obtain ⟨i1, i2, i3, i4, i5⟩ := I
    have fe : fK (tieE Ma h i j l) h' = fK M h' := by funext m; exact o 25 _ (by omega) (by omega) (by omega)
    unfold HnI
    rw [fe, t40, t41, t42, if_neg ne, if_neg ne, if_neg ne, o b' 4 (by omega) (by omega) (by omega), o b' 0 (by omega) (by omega) (by omega), o b' 5 (by omega) (by omega) (by omega), o b' 6 (by omega) (by omega) (by omega), o b' 7 (by omega) (by omega) (by omega)]
    refine ⟨fun m m0 m1 => ?_, i2, fun m m0 m1 => ?_, i4, i5⟩
    · rw [o k' m (by omega) (by omega) (by omega), o w' m (by omega) (by omega) (by omega), o 25 _ (by omega) (by omega) (by omega), o 26 _ (by omega) (by omega) (by omega)]; exact i1 m m0 m1
    · rw [o n' m (by omega) (by omega) (by omega)]; exact i3 m m0 m1
theorem p_tie {a b c d : Int} (hV : Inv M) (ha : R32 a) (hb : R32 b) (hc : R32 c) (hd : R32 d) : Pair N M 2 3 mK_tie mM_tie [.inl a, .inl b, .inl c, .inl d] := by
  refine ⟨_, k_tie ha hb hc hd hV.2.2.2.1, ?_⟩
  rintro r S' M1 ⟨rfl, rfl, e1, e2⟩
  by_cases q : tieK a b c d
  · obtain ⟨bb, k, w, n, hbb⟩ := hc_of q.1
    have em := e1 q bb k w n hbb
    have o : ∀ c' j, c' ≠ bb → M1 c' j = M c' j := fun c' j z => by rw [em, mset_ne (by omega), mset_ne (by omega), mset_ne (by omega)]
    have T := tie_inv (Ma := M1) (i := b) (j := c) (l := d) hV hbb (by have := q.2; omega) (by rw [em]; intro _ _ _; rfl)
    refine ⟨_, rfl, rfl, fun j => o 0 j (by omega), _, z_tie ha hb hc hd (fun x hx => by rw [o 40 _ (by omega), o 41 _ (by omega), o 42 _ (by omega)]; exact hV.1.2.2 x hx), ?_⟩
    rintro r' S'' M2 ⟨rfl, rfl, rfl⟩
    refine ⟨?_, rfl, by rw [if_pos q]; exact T.1, by rw [if_pos q]; exact T.2⟩
    unfold tieV
    rw [cnt_fr (M := M) (fun j => o 25 j (by omega))]
  · have em := e2 q
    subst em
    refine ⟨_, rfl, rfl, fun _ => rfl, _, z_tie ha hb hc hd hV.1.2.2, ?_⟩
    rintro r' S'' M2 ⟨rfl, rfl, rfl⟩
    rw [if_neg q]
    exact ⟨rfl, rfl, hV, fun _ => rfl⟩
/-- no tie, on both sides -/
theorem untie_inv {b k w n : Nat} (hV : Inv M) (hb : isHC h b k w n) : Inv (chg (mset (mset M b 7 0) 40 h (-9))) ∧ ∀ x, chg (mset (mset M b 7 0) 40 h (-9)) 0 x = M 0 x := by
  have hh := hc_h hb
  have o : ∀ c' x, ¬ (c' = b ∧ x = 7) → ¬ (c' = 40 ∧ x = h) → (mset (mset M b 7 0) 40 h (-9)) c' x = M c' x := fun c' x z1 z2 => by rw [mset_ne (by omega), mset_ne (by omega)]
  refine ⟨inv_chg ⟨hV.1.1.fr (fun c hc => by funext x; exact o c x (by omega) (by omega)), hV.1.2.1.keep (fun c x z => o c x (by omega) (by omega)), ?_⟩ (hV.2.2.1.keep (fun c x z => o c x (by omega) (by omega))) (hi2_of hb ?_ ?_) (hV.2.2.2.2.keep (fun c x z => o c x (by omega) (by omega))), fun x => by rw [chg_o (by omega), o 0 x (by omega) (by omega)]⟩
  · intro x hx
    by_cases z : x = h
    · subst z; left; exact mset_eq ..
    · rw [o 40 x (by omega) (by omega), o 41 x (by omega) (by omega), o 42 x (by omega) (by omega)]; exact hV.1.2.2 x hx
  · obtain ⟨i1, i2, i3, i4, i5⟩ := hV.2.2.2.1 _ _ _ _ _ hb
    have fe : fK (mset (mset M b 7 0) 40 h (-9)) h = fK M h := by funext m; exact o 25 _ (by omega) (by omega)
    unfold HnI
    rw [fe, o b 4 (by omega) (by omega), o b 0 (by omega) (by omega), mset_eq]
    refine ⟨fun m m0 m1 => ?_, i2, fun m m0 m1 => ?_, i4, Or.inl ⟨rfl, by rw [mset_ne (by omega), mset_eq]⟩⟩
    · rw [o k m (by omega) (by omega), o w m (by omega) (by omega), o 25 _ (by omega) (by omega), o 26 _ (by omega) (by omega)]; exact i1 m m0 m1
    · rw [o n m (by omega) (by omega)]; exact i3 m m0 m1
  · intro h' b' k' w' n' hb' ne
    obtain ⟨i1, i2, i3, i4, i5⟩ := hV.2.2.2.1 _ _ _ _ _ hb'
    have hh' := hc_h hb'
    have fe : fK (mset (mset M b 7 0) 40 h (-9)) h' = fK M h' := by funext m; exact o 25 _ (by omega) (by omega)
    unfold HnI
    rw [fe, o b' 4 (by omega) (by omega), o b' 0 (by omega) (by omega), o b' 5 (by omega) (by omega), o b' 6 (by omega) (by omega), o b' 7 (by omega) (by omega), o 40 h' (by omega) (by omega), o 41 h' (by omega) (by omega), o 42 h' (by omega) (by omega)]
    refine ⟨fun m m0 m1 => ?_, i2, fun m m0 m1 => ?_, i4, i5⟩
    · rw [o k' m (by omega) (by omega), o w' m (by omega) (by omega), o 25 _ (by omega) (by omega), o 26 _ (by omega) (by omega)]; exact i1 m m0 m1
    · rw [o n' m (by omega) (by omega)]; exact i3 m m0 m1
theorem p_untie {a : Int} (hV : Inv M) (ha : R32 a) : Pair N M 2 2 mK_untie mM_untie [.inl a] := by
  refine ⟨_, k_untie ha hV.2.2.2.1 hV.1.2.2, ?_⟩
  rintro r S' M1 ⟨rfl, rfl, e1, e2⟩
  by_cases q : isH a
  · obtain ⟨bb, k, w, n, hbb⟩ := hc_of q
    have em := e1 q bb k w n hbb
    subst em
    have T := untie_inv hV hbb
    refine ⟨_, rfl, rfl, fun j => mset_ne (by omega), _, z_untie ha, ?_⟩
    rintro r' S'' M2 ⟨rfl, rfl, rfl⟩
    refine ⟨?_, rfl, by rw [if_pos q]; exact T.1, by rw [if_pos q]; exact T.2⟩
    have e40 : (mset M bb 7 0) 40 a = M 40 a := mset_ne (by omega)
    unfold untieV
    rw [if_pos q, if_pos q]
    by_cases z : M 40 a ≠ -9
    · rw [bi_t z, bi_t (by rw [e40]; exact z)]
    · rw [bi_f z, bi_f (by rw [e40]; exact z)]
  · have em := e2 q
    subst em
    refine ⟨_, rfl, rfl, fun _ => rfl, _, z_untie ha, ?_⟩
    rintro r' S'' M2 ⟨rfl, rfl, rfl⟩
    rw [if_neg q]
    exact ⟨rfl, rfl, hV, fun _ => rfl⟩
end I3
