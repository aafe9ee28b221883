/-! ===== the class: swap ===== -/
theorem nmo_congr {f g : Int → Int} {k : Int} : ∀ n : Nat, (∀ m : Nat, m < n → f m = g m) → nmo f k n = nmo g k n := by
  intro n
  induction n with
  | zero => intro _; rfl
  | succ n ih =>
    intro h
    unfold nmo
    rw [cnt_congr n (fun m hm => h m (by omega)), h n (by omega), ih (fun m hm => h m (by omega))]
section Ks
variable {N : Nat} {M : Mm} {h : Int} {b k w n : Nat} {m : Int}
theorem hn_keep {Q Q' : Mm} (hb : isHC h b k w n) (hI : HnI Q h b k w n) (he : ∀ c j, c = b ∨ c = k ∨ c = n ∨ c = 40 ∨ c = 41 ∨ c = 42 → Q' c j = Q c j) (h25 : ∀ i, 0 ≤ i → i < 30 → Q' 25 (30 * h + i) = Q 25 (30 * h + i)) (hw : ∀ i, 0 ≤ i → i < 30 → Q' w i = Q' 26 (30 * h + i)) : HnI Q' h b k w n := by
  obtain ⟨i1, i2, i3, i4, i5⟩ := hI
  have ec : cnt (fK Q' h) 30 = cnt (fK Q h) 30 := cnt_congr 30 (fun x hx => h25 x (by omega) (by omega))
  have en : ∀ j, nmo (fK Q' h) j 30 = nmo (fK Q h) j 30 := fun j => nmo_congr 30 (fun x hx => h25 x (by omega) (by omega))
  refine ⟨fun x x0 x1 => ⟨?_, hw x x0 x1⟩, ?_, fun j j0 j1 => ?_, ?_, ?_⟩
  · rw [he k x (by omega), h25 x x0 x1]; exact (i1 x x0 x1).1
  · rw [he b 4 (by omega), ec]; exact i2
  · rw [ec] at j1
    rw [he n j (by omega), en]; exact i3 j j0 j1
  · rw [he b 0 (by omega)]; exact i4
  · rw [he b 5 (by omega), he b 6 (by omega), he b 7 (by omega), he 40 h (by omega), he 41 h (by omega), he 42 h (by omega)]; exact i5
theorem gv_fr {key : Int} {M' : Mm} (hG : Gv b k w n m key M M') : ∀ c j, ¬ (c = k ∨ c = w ∨ c = n ∨ (c = b ∧ j = 4)) → M' c j = M c j := by
  intro c j q
  by_cases e : M k m = key
  · rw [hG.1 e]
  · rw [(hG.2 e).2.2 c j (by omega), mset_ne (by omega), mset_ne (by omega)]
theorem gv_hn {Q M M' Q' : Mm} {key : Int} (hb : isHC h b k w n) (hQ : ∀ c j, c ≠ 25 → c ≠ 26 → Q c j = M c j) (hQ' : ∀ c j, c ≠ 25 → c ≠ 26 → Q' c j = M' c j) (hI : HnI Q h b k w n) (hG : Gv b k w n m key M M') (h0 : 0 ≤ m) (h1 : m < 30) (h25 : ∀ i, 0 ≤ i → i < 30 → Q' 25 (30 * h + i) = if i = m then key else Q 25 (30 * h + i)) (h26 : ∀ i, 0 ≤ i → i < 30 → Q' 26 (30 * h + i) = if i = m ∧ Q 25 (30 * h + m) ≠ key then -9 else Q 26 (30 * h + i)) : HnI Q' h b k w n := by
  obtain ⟨i1, i2, i3, i4, i5⟩ := id hI
  have ek : Q 25 (30 * h + m) = M k m := by rw [← (i1 m h0 h1).1]; exact hQ k m (by omega) (by omega)
  by_cases e : M k m = key
  · have em := hG.1 e
    subst em
    have e25 : ∀ i, 0 ≤ i → i < 30 → Q' 25 (30 * h + i) = Q 25 (30 * h + i) := fun i q1 q2 => by
      rw [h25 i q1 q2]
      by_cases hi : i = m
      · subst hi; rw [if_pos rfl, ek, e]
      · rw [if_neg hi]
    refine hn_keep hb hI (fun c j q => by rw [hQ' c j (by omega) (by omega), hQ c j (by omega) (by omega)]) e25 (fun i q1 q2 => ?_)
    rw [h26 i q1 q2, if_neg (fun z => z.2 (by rw [ek]; exact e)), hQ' w i (by omega) (by omega), ← hQ w i (by omega) (by omega)]
    exact (i1 i q1 q2).2
  · obtain ⟨g1, g2, g3⟩ := hG.2 e
    have kM : ∀ i, (mset (mset M k m key) w m (-9)) k i = if i = m then key else M k i := fun i => by
      rw [mset_ne (by omega)]; unfold mset
      by_cases hi : i = m
      · rw [if_pos ⟨rfl, hi⟩, if_pos hi]
      · rw [if_neg (fun z => hi z.2), if_neg hi]
    have wM : ∀ i, (mset (mset M k m key) w m (-9)) w i = if i = m then -9 else M w i := fun i => by
      unfold mset
      by_cases hi : i = m
      · rw [if_pos ⟨rfl, hi⟩, if_pos hi]
      · rw [if_neg (fun z => hi z.2), if_neg (by omega), if_neg hi]
    have r25 : ∀ i, 0 ≤ i → i < 30 → (mset (mset M k m key) w m (-9)) k i = Q' 25 (30 * h + i) := fun i q1 q2 => by
      rw [kM, h25 i q1 q2]
      by_cases hi : i = m
      · rw [if_pos hi, if_pos hi]
      · rw [if_neg hi, if_neg hi, ← (i1 i q1 q2).1, hQ k i (by omega) (by omega)]
    have ec : cnt ((mset (mset M k m key) w m (-9)) k) 30 = cnt (fK Q' h) 30 := cnt_congr 30 (fun x hx => r25 x (by omega) (by omega))
    have fb : ∀ j, j ≠ 4 → Q' b j = Q b j := fun j q => by
      rw [hQ' b j (by omega) (by omega), g3 b j (by omega), mset_ne (by omega), mset_ne (by omega), hQ b j (by omega) (by omega)]
    have f4 : ∀ c j, c = 40 ∨ c = 41 ∨ c = 42 → Q' c j = Q c j := fun c j q => by
      rw [hQ' c j (by omega) (by omega), g3 c j (by omega), mset_ne (by omega), mset_ne (by omega), hQ c j (by omega) (by omega)]
    refine ⟨fun i q1 q2 => ⟨?_, ?_⟩, ?_, fun j j0 j1 => ?_, ?_, ?_⟩
    · rw [hQ' k i (by omega) (by omega), g3 k i (by omega)]; exact r25 i q1 q2
    · rw [hQ' w i (by omega) (by omega), g3 w i (by omega), wM, h26 i q1 q2]
      by_cases hi : i = m
      · rw [if_pos hi, if_pos ⟨hi, by rw [ek]; exact e⟩]
      · rw [if_neg hi, if_neg (fun z => hi z.1), ← (i1 i q1 q2).2, hQ w i (by omega) (by omega)]
    · rw [hQ' b 4 (by omega) (by omega), g1, ec]
    · have no := nmo_ok j0 j1
      have x0 := no.1
      have x1 := no.2.1
      have ne : (mset (mset M k m key) w m (-9)) k ((nmo (fK Q' h) j 30).toNat : Int) ≠ -9 := by
        rw [show ((nmo (fK Q' h) j 30).toNat : Int) = nmo (fK Q' h) j 30 by omega, r25 _ x0 (by omega)]
        exact no.2.2.1
      have := g2 (nmo (fK Q' h) j 30).toNat (by omega) ne
      rw [cnt_congr (f := (mset (mset M k m key) w m (-9)) k) (g := fK Q' h) _ (fun x hx => r25 x (by omega) (by omega)), no.2.2.2] at this
      rw [hQ' n j (by omega) (by omega), this]
      omega
    · rw [fb 0 (by omega)]; exact i4
    · rw [fb 5 (by omega), fb 6 (by omega), fb 7 (by omega), f4 40 h (by omega), f4 41 h (by omega), f4 42 h (by omega)]; exact i5
/-- what an exchange changes -/
def FrX (M M' : Mm) : Prop := ∀ c j, ¬ (c = 6 ∨ c = 7 ∨ c = 8 ∨ c = 10 ∨ c = 11 ∨ c = 12 ∨ ((c = 5 ∨ c = 9) ∧ j = 4)) → M' c j = M c j
theorem xc_hi2 {Q M M' : Mm} (hQ : ∀ c j, c ≠ 25 → c ≠ 26 → Q c j = M c j) (hH : HI2 Q) (hX : Xc m M M') (h0 : 0 ≤ m) (h1 : m < 30) : HI2 (qv (swE Q m) M') ∧ FrX M M' := by
  obtain ⟨Ma, G1, G2⟩ := hX
  have I0 := hH _ _ _ _ _ hc0
  have I1 := hH _ _ _ _ _ hc1
  have e10 : M 10 m = Q 25 (30 + m) := by rw [← hQ 10 m (by omega) (by omega), (I1.1 m h0 h1).1, show (30 : Int) * 1 + m = 30 + m by omega]
  have e6 : M 6 m = Q 25 m := by rw [← hQ 6 m (by omega) (by omega), (I0.1 m h0 h1).1, show (30 : Int) * 0 + m = m by omega]
  rw [e10] at G1
  rw [e6] at G2
  have f1 := gv_fr G1
  have f2 := gv_fr G2
  have A0 : HnI (qv (lay1 Q m (Q 25 (30 + m))) Ma) 0 5 6 7 8 := gv_hn hc0 hQ qv_q I0 G1 h0 h1 (fun i q1 q2 => by rw [qv_25, lay_25, show (30 : Int) * 0 + i = i by omega]) (fun i q1 q2 => by rw [qv_26, lay_26, show (30 : Int) * 0 + i = i by omega, show (30 : Int) * 0 + m = m by omega])
  have A1 : HnI (qv (lay1 Q m (Q 25 (30 + m))) Ma) 1 9 10 11 12 := hn_keep hc1 I1 (fun c j q => by rw [qv_o (by omega), f1 c j (by omega), hQ c j (by omega) (by omega)]) (fun i q1 q2 => by rw [qv_25, lay_25, if_neg (by omega)]) (fun i q1 q2 => by
    rw [qv_o (by omega), f1 11 i (by omega), ← hQ 11 i (by omega) (by omega), qv_26, lay_26, if_neg (by omega)]; exact (I1.1 i q1 q2).2)
  have B1 : HnI (qv (swE Q m) M') 1 9 10 11 12 := gv_hn hc1 qv_q qv_q A1 G2 h0 h1 (fun i q1 q2 => by
      rw [qv_25, qv_25]; unfold swE; rw [lay_25]
      by_cases hi : i = m
      · rw [if_pos hi, if_pos (by omega)]
      · rw [if_neg hi, if_neg (by omega)]) (fun i q1 q2 => by
      rw [qv_26, qv_26, qv_25]; unfold swE; rw [lay_26, show (30 : Int) * 1 + m = 30 + m by omega]
      by_cases hi : i = m
      · subst hi
        by_cases z : lay1 Q i (Q 25 (30 + i)) 25 (30 + i) ≠ Q 25 i
        · rw [if_pos ⟨by omega, z⟩, if_pos ⟨rfl, z⟩]
        · rw [if_neg (fun y => z y.2), if_neg (fun y => z y.2)]
      · rw [if_neg (by omega), if_neg (fun y => hi y.1)])
  have B0 : HnI (qv (swE Q m) M') 0 5 6 7 8 := hn_keep hc0 A0 (fun c j q => by rw [qv_o (by omega), qv_o (by omega), f2 c j (by omega)]) (fun i q1 q2 => by rw [qv_25, qv_25]; unfold swE; rw [lay_25, if_neg (by omega)]) (fun i q1 q2 => by
    have := (A0.1 i q1 q2).2
    rw [qv_o (by omega), qv_26] at this
    rw [qv_o (by omega), f2 7 i (by omega), this, qv_26]; unfold swE; rw [lay_26 (M := lay1 Q m (Q 25 (30 + m))), if_neg (by omega)])
  refine ⟨fun h b k w n hb => ?_, fun c j q => by rw [f2 c j (by omega), f1 c j (by omega)]⟩
  rcases hb with ⟨rfl, rfl, rfl, rfl, rfl⟩ | ⟨rfl, rfl, rfl, rfl, rfl⟩
  · exact B0
  · exact B1
theorem xc_mi {Q M M' : Mm} (hQ : ∀ c j, c ≠ 25 → c ≠ 26 → Q c j = M c j) (hI : MI Q) (hF : FrX M M') (h0 : 0 ≤ m) (h1 : m < 30) : MI (qv (swE Q m) M') ∧ CE (swE Q m) (qv (swE Q m) M') := by
  have f : ∀ c : Nat, c = 3 ∨ c = 4 ∨ (24 < c ∧ c < 47) → qv (swE Q m) M' c = swE Q m c := fun c hc => by
    funext j
    unfold qv
    split
    · rfl
    · rw [hF c j (by omega), sw_o j (by omega), hQ c j (by omega) (by omega)]
  have ce : CE (swE Q m) (qv (swE Q m) M') := ⟨f _ (by omega), f _ (by omega), f _ (by omega), f _ (by omega), f _ (by omega), f _ (by omega), f _ (by omega), f _ (by omega), f _ (by omega)⟩
  exact ⟨(hI.sw h0 h1).ce ce ⟨f _ (by omega), f _ (by omega)⟩, ce⟩
theorem k_swap (hm : R32 m) (hH : HI2 M) (hI : MI M) : Ret 7 0 0 mK_swap [.inr 1, .inl m] (S0 N) M (fun r S' M' => r = some (.inl (swapV M m)) ∧ S' = S0 N ∧ (isM m → HI2 (qv (swE M m) M') ∧ ∃ M1, FrX M M1 ∧ FrR M1 M') ∧ (¬ isM m → M' = M)) := by
  refine eK_swap [] 30 (Nat.le_of_ble_eq_true rfl) (fun hM => ?_)
  refine CL.bl (t_isMoment hm) (Nat.le_of_ble_eq_true rfl) (fun q1 => ?_) (fun q1 => ?_)
  · refine ⟨R32_1, ⟨3, _, (Nat.le_of_ble_eq_true rfl), t_exchange q1.1 q1.2, ?_⟩⟩
    rintro r S' M1 ⟨rfl, rfl, hX⟩ hM1
    obtain ⟨x1, x2⟩ := xc_hi2 (Q := M) (fun _ _ _ _ => rfl) hH hX q1.1 q1.2
    obtain ⟨x3, x4⟩ := xc_mi (Q := M) (fun _ _ _ _ => rfl) hI x2 q1.1 q1.2
    have S := x_sum (N := N) (M := M1) (Q := qv (swE M m) M1) qv_q x1 x3
    rw [ce_sum x4 (hI.sw q1.1 q1.2)] at S
    refine ⟨6, _, (Nat.le_of_ble_eq_true rfl), S, ?_⟩
    rintro r S' M2 ⟨rfl, rfl, p3, p4⟩ hM2
    refine ⟨by unfold swapV; rw [if_pos q1], rfl, fun _ => ⟨?_, M1, x2, p3⟩, fun z => absurd q1 z⟩
    have hq : FrR (qv (swE M m) M1) (qv (swE M m) M2) := fun c j q => by
      unfold qv
      split
      · rfl
      · exact p3 c j q
    exact x1.frR hq
  · exact ⟨R32_0, by unfold swapV; rw [if_neg q1], rfl, fun z => absurd z q1, fun _ => rfl⟩
end Ks
