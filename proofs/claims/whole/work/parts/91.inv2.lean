/-! ===== both sides agree: calls that set ===== -/
section I2
variable {N : Nat} {M M1 M2 A : Mm} {h : Int}
theorem inv_chg (a : MI A) (c : PhI A) (d : HI2 A) (e : PQ A A) : Inv (chg A) := by
  have f : ∀ c j, ¬ (c = 24 ∧ (j = 18 ∨ j = 19)) → chg A c j = A c j := fun c j q => by unfold chg; rw [mset_ne (by omega), mset_ne (by omega)]
  exact ⟨a.ce (ce_chg A).1 (ce_chg A).2, ChI.chg A, c.keep (fun c j q => f c j (by omega)), d.keep (fun c j q => f c j (by omega)), e.keep (fun c j q => f c j (by omega))⟩
theorem chg_o {c : Nat} {j : Int} (q : c ≠ 24) : chg A c j = A c j := by unfold chg; rw [mset_ne (by omega), mset_ne (by omega)]
/-- both hands, one of them changed -/
theorem hi2_of {b k w n : Nat} (hb : isHC h b k w n) (h1 : HnI A h b k w n) (h2 : ∀ h' b' k' w' n', isHC h' b' k' w' n' → h' ≠ h → HnI A h' b' k' w' n') : HI2 A := by
  intro h' b' k' w' n' hb'
  by_cases e : h' = h
  · have e1 : b' = b := by omega
    have e2 : k' = k := by omega
    have e3 : w' = w := by omega
    have e4 : n' = n := by omega
    subst e; subst e1; subst e2; subst e3; subst e4
    exact h1
  · exact h2 h' b' k' w' n' hb' e
/-- rules, keys, ties -/
theorem mi_of (hI : MI M) (hr : ∀ c j, c = 3 ∨ c = 4 ∨ (27 ≤ c ∧ c ≤ 30) → A c j = M c j) (hK : KyI A) (ht : ∀ c j, 40 ≤ c ∧ c ≤ 42 → A c j = M c j) : MI A := by
  refine ⟨hI.1.fr (fun c hc => by funext j; exact hr c j (by omega)), hK, ?_⟩
  intro x hx
  rw [ht 40 _ (by omega), ht 41 _ (by omega), ht 42 _ (by omega)]
  exact hI.2.2 x hx
theorem KyI.keep (hK : KyI M) (hf : ∀ c j, c = 25 ∨ c = 26 → A c j = M c j) : KyI A := by
  unfold KyI at *
  rw [show A 25 = M 25 from funext fun j => hf 25 j (by omega), show A 26 = M 26 from funext fun j => hf 26 j (by omega)]
  exact hK
theorem p_put {a b c : Int} (hV : Inv M) (ha : R32 a) (hb : R32 b) (hc : R32 c) : Pair N M 3 2 mK_put mM_put [.inl a, .inl b, .inl c] := by
  refine ⟨_, k_put ha hb hc hV.2.2.2.1, ?_⟩
  rintro r S' M1 ⟨rfl, rfl, e1, e2⟩
  by_cases q : putK a b c
  · obtain ⟨bb, k, w, n, hbb⟩ := hc_of q.1.1
    have hh := hc_h hbb
    have G := e1 q bb k w n hbb
    have fr := gv_fr G
    have z0 : ∀ j, M1 0 j = M 0 j := fun j => fr 0 j (by omega)
    have o : ∀ c' j, c' ≠ 25 → c' ≠ 26 → lay1 M1 (30 * a + b) c c' j = M1 c' j := fun c' j q1 q2 => lay_o j ⟨q1, q2⟩
    have H : Inv (chg (lay1 M1 (30 * a + b) c)) := by
      have k1 : KyI M1 := hV.1.2.1.keep (fun c' j z => fr c' j (by omega))
      refine inv_chg (mi_of hV.1 (fun c' j z => by rw [o c' j (by omega) (by omega), fr c' j (by omega)]) (k1.lay q.2) (fun c' j z => by rw [o c' j (by omega) (by omega), fr c' j (by omega)])) (hV.2.2.1.keep (fun c' j z => by rw [o c' j (by omega) (by omega), fr c' j (by omega)])) (hi2_of hbb ?_ ?_) (hV.2.2.2.2.keep (fun c' j z => by rw [o c' j (by omega) (by omega), fr c' j (by omega)]))
      · refine gv_hn (Q := M) hbb (fun _ _ _ _ => rfl) o (hV.2.2.2.1 _ _ _ _ _ hbb) G q.1.2.1 q.1.2.2 (fun i i0 i1 => ?_) (fun i i0 i1 => ?_)
        · rw [lay_25, fr 25 _ (by omega)]
          by_cases hi : i = b
          · rw [if_pos hi, if_pos (by omega)]
          · rw [if_neg hi, if_neg (by omega)]
        · rw [lay_26, fr 26 _ (by omega), fr 25 _ (by omega)]
          by_cases hi : i = b
          · subst hi
            by_cases z : M 25 (30 * a + i) ≠ c
            · rw [if_pos ⟨rfl, z⟩, if_pos ⟨rfl, z⟩]
            · rw [if_neg (fun y => z y.2), if_neg (fun y => z y.2)]
          · rw [if_neg (by omega), if_neg (fun y => hi y.1)]
      · intro h' b' k' w' n' hb' ne
        have I := hV.2.2.2.1 _ _ _ _ _ hb'
        have hh' := hc_h hb'
        refine hn_keep hb' I (fun c' j z => by rw [o c' j (by omega) (by omega), fr c' j (by omega)]) (fun i i0 i1 => ?_) (fun i i0 i1 => ?_)
        · rw [lay_25, if_neg (by omega), fr 25 _ (by omega)]
        · rw [o w' i (by omega) (by omega), fr w' i (by omega), lay_26, if_neg (by omega), fr 26 _ (by omega)]
          exact (I.1 i i0 i1).2
    refine ⟨_, rfl, rfl, z0, _, z_put ha hb hc, ?_⟩
    rintro r' S'' M2 ⟨rfl, rfl, rfl⟩
    refine ⟨?_, rfl, by rw [if_pos q]; exact H, fun j => by rw [if_pos q, chg_o (by omega), o 0 j (by omega) (by omega)]; exact z0 j⟩
    unfold putV
    rw [fr 25 _ (by omega)]
  · have em := e2 q
    subst em
    refine ⟨_, rfl, rfl, fun _ => rfl, _, z_put ha hb hc, ?_⟩
    rintro r' S'' M2 ⟨rfl, rfl, rfl⟩
    rw [if_neg q]
    exact ⟨rfl, rfl, hV, fun _ => rfl⟩
theorem p_mark {a b c : Int} (hV : Inv M) (ha : R32 a) (hb : R32 b) (hc : R32 c) : Pair N M 3 2 mK_mark mM_mark [.inl a, .inl b, .inl c] := by
  refine ⟨_, k_mark ha hb hc hV.2.2.2.1, ?_⟩
  rintro r S' M1 ⟨rfl, rfl, e1, e2⟩
  by_cases q : markK M a b c
  · obtain ⟨bb, k, w, n, hbb⟩ := hc_of q.1.1
    have hh := hc_h hbb
    have em := e1 q bb k w n hbb
    subst em
    have fr : ∀ c' j, c' ≠ w → mset M w b c c' j = M c' j := fun c' j z => mset_ne (by omega)
    have q' : markK (mset M w b c) a b c := ⟨q.1, q.2.1, by rw [fr 25 _ (by omega)]; exact q.2.2⟩
    have o : ∀ c' j, c' ≠ 26 → c' ≠ w → mset (mset M w b c) 26 (30 * a + b) c c' j = M c' j := fun c' j z1 z2 => by rw [mset_ne (by omega), fr c' j z2]
    have e26 : ∀ j, mset (mset M w b c) 26 (30 * a + b) c 26 j = if j = 30 * a + b then c else M 26 j := fun j => by
      by_cases z : j = 30 * a + b
      · subst z; rw [if_pos rfl, mset_eq]
      · rw [if_neg z, mset_ne (by omega), fr 26 j (by omega)]
    have H : Inv (chg (mset (mset M w b c) 26 (30 * a + b) c)) := by
      refine inv_chg (mi_of hV.1 (fun c' j z => o c' j (by omega) (by omega)) ?_ (fun c' j z => o c' j (by omega) (by omega))) (hV.2.2.1.keep (fun c' j z => o c' j (by omega) (by omega))) (hi2_of hbb ?_ ?_) (hV.2.2.2.2.keep (fun c' j z => o c' j (by omega) (by omega)))
      · intro j j0 j1
        rw [o 25 j (by omega) (by omega), e26]
        have := hV.1.2.1 j j0 j1
        by_cases z : j = 30 * a + b
        · subst z
          rw [if_pos rfl]
          have := q.2.1
          have := q.2.2
          omega
        · rw [if_neg z]; exact this
      · have I := hV.2.2.2.1 _ _ _ _ _ hbb
        refine hn_keep hbb I (fun c' j z => o c' j (by omega) (by omega)) (fun i i0 i1 => o 25 _ (by omega) (by omega)) (fun i i0 i1 => ?_)
        rw [e26, mset_ne (by omega)]
        by_cases hi : i = b
        · subst hi; rw [if_pos rfl, mset_eq]
        · rw [if_neg (by omega), mset_ne (by omega)]; exact (I.1 i i0 i1).2
      · intro h' b' k' w' n' hb' ne
        have I := hV.2.2.2.1 _ _ _ _ _ hb'
        have hh' := hc_h hb'
        refine hn_keep hb' I (fun c' j z => o c' j (by omega) (by omega)) (fun i i0 i1 => o 25 _ (by omega) (by omega)) (fun i i0 i1 => ?_)
        rw [o w' i (by omega) (by omega), e26, if_neg (by omega)]
        exact (I.1 i i0 i1).2
    refine ⟨_, rfl, rfl, fun j => fr 0 j (by omega), _, z_mark ha hb hc, ?_⟩
    rintro r' S'' M2 ⟨rfl, rfl, rfl⟩
    refine ⟨?_, rfl, by rw [if_pos q']; exact H, fun j => by rw [if_pos q', chg_o (by omega), o 0 j (by omega) (by omega)]⟩
    unfold markV
    rw [fr 25 _ (by omega), fr 26 _ (by omega)]
  · have em := e2 q
    subst em
    refine ⟨_, rfl, rfl, fun _ => rfl, _, z_mark ha hb hc, ?_⟩
    rintro r' S'' M2 ⟨rfl, rfl, rfl⟩
    rw [if_neg q]
    exact ⟨rfl, rfl, hV, fun _ => rfl⟩
theorem p_price {a b : Int} (hV : Inv M) (ha : R32 a) (hb : R32 b) : Pair N M 2 2 mK_price mM_price [.inl a, .inl b] := by
  refine ⟨_, k_price ha hb hV.1.1, ?_⟩
  rintro r S' M1 ⟨rfl, rfl, rfl⟩
  by_cases q : priceK a b
  · rw [if_pos q]
    have o : ∀ c' j, c' ≠ 3 → c' ≠ 30 → mset (mset M 3 a b) 30 a b c' j = M c' j := fun c' j z1 z2 => by rw [mset_ne (by omega), mset_ne (by omega)]
    have H : Inv (chg (mset (mset M 3 a b) 30 a b)) := by
      refine inv_chg ⟨⟨fun k k0 k1 => ?_, fun f g f1 f2 f3 => ?_⟩, hV.1.2.1.keep (fun c' j z => o c' j (by omega) (by omega)), ?_⟩ (hV.2.2.1.keep (fun c' j z => o c' j (by omega) (by omega))) (hV.2.2.2.1.keep (fun c' j z => o c' j (by omega) (by omega))) (hV.2.2.2.2.keep (fun c' j z => o c' j (by omega) (by omega)))
      · by_cases hk : k = a
        · subst hk; rw [mset_eq, mset_ne (by omega), mset_eq]; exact ⟨rfl, q.2.1, q.2.2⟩
        · rw [mset_ne (by omega), mset_ne (by omega), mset_ne (by omega), mset_ne (by omega)]; exact hV.1.1.1 k k0 k1
      · rw [o 4 _ (by omega) (by omega), o 4 _ (by omega) (by omega), o 4 _ (by omega) (by omega), o 27 _ (by omega) (by omega), o 28 _ (by omega) (by omega), o 29 _ (by omega) (by omega)]
        exact hV.1.1.2 f g f1 f2 f3
      · intro x hx
        rw [o 40 _ (by omega) (by omega), o 41 _ (by omega) (by omega), o 42 _ (by omega) (by omega)]
        exact hV.1.2.2 x hx
    refine ⟨_, rfl, rfl, fun j => mset_ne (by omega), _, z_price ha hb, ?_⟩
    rintro r' S'' M2 ⟨rfl, rfl, rfl⟩
    refine ⟨?_, rfl, by rw [if_pos q]; exact H, fun j => by rw [if_pos q, chg_o (by omega), o 0 j (by omega) (by omega)]⟩
    unfold priceV
    rw [mset_ne (by omega)]
  · rw [if_neg q]
    refine ⟨_, rfl, rfl, fun _ => rfl, _, z_price ha hb, ?_⟩
    rintro r' S'' M2 ⟨rfl, rfl, rfl⟩
    rw [if_neg q]
    exact ⟨rfl, rfl, hV, fun _ => rfl⟩
end I2
