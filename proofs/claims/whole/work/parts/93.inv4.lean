/-! ===== both sides agree: clear, tieEcho, swap ===== -/
section I4
variable {N : Nat} {M M1 M2 A : Mm} {h : Int}
theorem cnt_none {f : Int → Int} : ∀ n : Nat, (∀ m : Nat, m < n → f m = -9) → cnt f n = 0 := by
  intro n
  induction n with
  | zero => intro _; rfl
  | succ n ih => intro q; unfold cnt; rw [ih (fun m hm => q m (by omega)), if_pos (q n (by omega))]; rfl
theorem clear_inv {b k w n : Nat} (hV : Inv M) (hb : isHC h b k w n) : Inv (chg (mset (clrM (raM b k w M) h 30) 40 h (-9))) ∧ (∀ x, chg (mset (clrM (raM b k w M) h 30) 40 h (-9)) 0 x = M 0 x) ∧ ∀ c x, ¬ (5 ≤ c ∧ c ≤ 12) → raM b k w M c x = M c x := by
  have hh := hc_h hb
  have r1 : ∀ c x, c ≠ k → c ≠ w → ¬ (c = b ∧ (x = 4 ∨ x = 7)) → raM b k w M c x = M c x := fun c x z1 z2 z3 => by
    unfold raM flM
    rw [mset_ne (by omega), mset_ne (by omega), if_neg (by omega), if_neg (by omega)]
  have rk : ∀ x, 0 ≤ x → x < 30 → raM b k w M k x = -9 ∧ raM b k w M w x = -9 := fun x x0 x1 => by
    unfold raM flM
    rw [mset_ne (by omega), mset_ne (by omega), mset_ne (by omega), mset_ne (by omega), if_neg (by omega), if_pos (by omega), if_pos (by omega)]
    exact ⟨rfl, rfl⟩
  have r4 : raM b k w M b 4 = 0 := by unfold raM; rw [mset_ne (by omega), mset_eq]
  have r7 : raM b k w M b 7 = 0 := by unfold raM; rw [mset_eq]
  have o : ∀ c x, c ≠ 25 → c ≠ 26 → ¬ (c = 40 ∧ x = h) → (mset (clrM (raM b k w M) h 30) 40 h (-9)) c x = raM b k w M c x := fun c x z1 z2 z3 => by
    rw [mset_ne (by omega)]; unfold clrM; rw [if_neg (by omega)]
  have o25 : ∀ c x, c = 25 ∨ c = 26 → (mset (clrM (raM b k w M) h 30) 40 h (-9)) c x = if 30 * h ≤ x ∧ x < 30 * h + 30 then -9 else M c x := fun c x z => by
    rw [mset_ne (by omega)]; unfold clrM
    by_cases y : 30 * h ≤ x ∧ x < 30 * h + 30
    · rw [if_pos ⟨z, y⟩, if_pos y]
    · rw [if_neg (fun u => y u.2), if_neg y, r1 c x (by omega) (by omega) (by omega)]
  refine ⟨inv_chg ⟨hV.1.1.fr (fun c hc => by funext x; rw [o c x (by omega) (by omega) (by omega), r1 c x (by omega) (by omega) (by omega)]), fun x x0 x1 => ?_, fun x hx => ?_⟩ (hV.2.2.1.keep (fun c x z => by rw [o c x (by omega) (by omega) (by omega), r1 c x (by omega) (by omega) (by omega)])) (hi2_of hb ?_ ?_) (hV.2.2.2.2.keep (fun c x z => by rw [o c x (by omega) (by omega) (by omega), r1 c x (by omega) (by omega) (by omega)])), fun x => by rw [chg_o (by omega), o 0 x (by omega) (by omega) (by omega), r1 0 x (by omega) (by omega) (by omega)], fun c x z => r1 c x (by omega) (by omega) (by omega)⟩
  · rw [o25 25 x (by omega), o25 26 x (by omega)]
    by_cases y : 30 * h ≤ x ∧ x < 30 * h + 30
    · rw [if_pos y, if_pos y]; omega
    · rw [if_neg y, if_neg y]; exact hV.1.2.1 x x0 x1
  · by_cases z : x = h
    · subst z; left; exact mset_eq ..
    · rw [o 40 x (by omega) (by omega) (by omega), o 41 x (by omega) (by omega) (by omega), o 42 x (by omega) (by omega) (by omega), r1 40 x (by omega) (by omega) (by omega), r1 41 x (by omega) (by omega) (by omega), r1 42 x (by omega) (by omega) (by omega)]
      exact hV.1.2.2 x hx
  · have c0 : cnt (fK (mset (clrM (raM b k w M) h 30) 40 h (-9)) h) 30 = 0 := cnt_none 30 (fun m hm => by
      show (mset (clrM (raM b k w M) h 30) 40 h (-9)) 25 (30 * h + m) = -9
      rw [o25 25 _ (by omega), if_pos (by omega)])
    obtain ⟨i1, i2, i3, i4, i5⟩ := hV.2.2.2.1 _ _ _ _ _ hb
    refine ⟨fun m m0 m1 => ?_, ?_, fun j j0 j1 => by omega, ?_, Or.inl ⟨mset_eq .., ?_⟩⟩
    · rw [o k m (by omega) (by omega) (by omega), o w m (by omega) (by omega) (by omega), (rk m m0 m1).1, (rk m m0 m1).2, o25 25 _ (by omega), o25 26 _ (by omega), if_pos (by omega), if_pos (by omega)]
      exact ⟨rfl, rfl⟩
    · rw [c0, o b 4 (by omega) (by omega) (by omega)]; exact r4
    · rw [o b 0 (by omega) (by omega) (by omega), r1 b 0 (by omega) (by omega) (by omega)]; exact i4
    · rw [o b 7 (by omega) (by omega) (by omega)]; exact r7
  · intro h' b' k' w' n' hb' ne
    have hh' := hc_h hb'
    have I := hV.2.2.2.1 _ _ _ _ _ hb'
    obtain ⟨i1, i2, i3, i4, i5⟩ := id I
    have fe : ∀ i, 0 ≤ i → i < 30 → (mset (clrM (raM b k w M) h 30) 40 h (-9)) 25 (30 * h' + i) = M 25 (30 * h' + i) ∧ (mset (clrM (raM b k w M) h 30) 40 h (-9)) 26 (30 * h' + i) = M 26 (30 * h' + i) := fun i q1 q2 => by
      rw [o25 25 _ (by omega), o25 26 _ (by omega), if_neg (by omega), if_neg (by omega)]; exact ⟨rfl, rfl⟩
    have g : ∀ c x, c = b' ∨ c = k' ∨ c = w' ∨ c = n' → (mset (clrM (raM b k w M) h 30) 40 h (-9)) c x = M c x := fun c x z => by rw [o c x (by omega) (by omega) (by omega), r1 c x (by omega) (by omega) (by omega)]
    have g4 : ∀ c, c = 40 ∨ c = 41 ∨ c = 42 → (mset (clrM (raM b k w M) h 30) 40 h (-9)) c h' = M c h' := fun c z => by rw [o c h' (by omega) (by omega) (by omega), r1 c h' (by omega) (by omega) (by omega)]
    have ec : cnt (fK (mset (clrM (raM b k w M) h 30) 40 h (-9)) h') 30 = cnt (fK M h') 30 := cnt_congr 30 (fun x hx => (fe x (by omega) (by omega)).1)
    have en : ∀ j, nmo (fK (mset (clrM (raM b k w M) h 30) 40 h (-9)) h') j 30 = nmo (fK M h') j 30 := fun j => nmo_congr 30 (fun x hx => (fe x (by omega) (by omega)).1)
    refine ⟨fun m m0 m1 => ?_, ?_, fun j j0 j1 => ?_, ?_, ?_⟩
    · rw [g k' m (by omega), g w' m (by omega), (fe m m0 m1).1, (fe m m0 m1).2]; exact i1 m m0 m1
    · rw [ec, g b' 4 (by omega)]; exact i2
    · rw [ec] at j1
      rw [en, g n' j (by omega)]; exact i3 j j0 j1
    · rw [g b' 0 (by omega)]; exact i4
    · rw [g b' 5 (by omega), g b' 6 (by omega), g b' 7 (by omega), g4 40 (by omega), g4 41 (by omega), g4 42 (by omega)]; exact i5
theorem p_clear {a : Int} (hV : Inv M) (ha : R32 a) : Pair N M 2 2 mK_clear mM_clear [.inl a] := by
  refine ⟨_, k_clear ha hV.2.2.2.1, ?_⟩
  rintro r S' M1 ⟨rfl, rfl, e1, e2⟩
  by_cases q : isH a
  · obtain ⟨bb, k, w, n, hbb⟩ := hc_of q
    have em := e1 q bb k w n hbb
    subst em
    obtain ⟨T1, T2, T3⟩ := clear_inv hV hbb
    refine ⟨_, rfl, rfl, fun j => T3 0 j (by omega), _, z_clear ha (hV.1.2.1.keep (fun c j z => T3 c j (by omega))), ?_⟩
    rintro r' S'' M2 ⟨rfl, rfl, rfl⟩
    refine ⟨?_, rfl, by rw [if_pos q]; exact T1, by rw [if_pos q]; exact T2⟩
    unfold clearV
    rw [cnt_fr (M := M) (fun j => T3 25 j (by omega))]
  · have em := e2 q
    subst em
    refine ⟨_, rfl, rfl, fun _ => rfl, _, z_clear ha hV.1.2.1, ?_⟩
    rintro r' S'' M2 ⟨rfl, rfl, rfl⟩
    rw [if_neg q]
    exact ⟨rfl, rfl, hV, fun _ => rfl⟩
theorem p_swap {a : Int} (hV : Inv M) (ha : R32 a) : Pair N M 7 12 mK_swap mM_swap [.inl a] := by
  refine ⟨_, k_swap ha hV.2.2.2.1 hV.1, ?_⟩
  rintro r S' M1 ⟨rfl, rfl, e1, e2⟩
  by_cases q : isM a
  · obtain ⟨H, Mx, x1, x2⟩ := e1 q
    have f : ∀ c j, ¬ (5 ≤ c ∧ c ≤ 18) → M1 c j = M c j := fun c j z => by rw [x2 c j (by omega), x1 c j (by omega)]
    have hI1 : MI M1 := mi_of hV.1 (fun c j z => f c j (by omega)) (hV.1.2.1.keep (fun c j z => f c j (by omega))) (fun c j z => f c j (by omega))
    have ce : CE M M1 := FrH.ce f
    have cs := ce_sw ce a
    refine ⟨_, rfl, rfl, fun j => f 0 j (by omega), _, z_swap ha hI1, ?_⟩
    rintro r' S'' M2 ⟨rfl, rfl, g1, _⟩
    have A := g1 q
    have V : Inv (chg (swE M1 a)) := by
      refine inv_chg (hI1.sw q.1 q.2) (hV.2.2.1.keep (fun c j z => by rw [sw_o j (by omega), f c j (by omega)])) (H.keep (fun c j z => ?_)) (hV.2.2.2.2.keep (fun c j z => by rw [sw_o j (by omega), f c j (by omega)]))
      unfold qv
      by_cases y : c = 25 ∨ c = 26
      · rw [if_pos y]
        rcases y with rfl | rfl
        · rw [cs.1]
        · rw [cs.2.1]
      · rw [if_neg y, sw_o j (by omega)]
    refine ⟨?_, rfl, (V.ak A).1, fun j => by rw [(V.ak A).2, chg_o (by omega), sw_o j (by omega), f 0 j (by omega)]⟩
    unfold swapV
    rw [if_pos q, if_pos q, ce_sum cs (hV.1.sw q.1 q.2)]
  · have em := e2 q
    subst em
    refine ⟨_, rfl, rfl, fun _ => rfl, _, z_swap ha hV.1, ?_⟩
    rintro r' S'' M2 ⟨rfl, rfl, _, g2⟩
    rw [g2 q]
    exact ⟨rfl, rfl, hV, fun _ => rfl⟩
theorem ph_congr (h43 : M1 43 = M 43) (h25 : M1 24 25 = M 24 25) (x : Int) : phV M1 x = phV M x := by unfold phV; rw [h43, h25]
theorem echS_congr (e25 : M1 25 = M 25) (e44 : M1 44 = M 44) (e45 : M1 45 = M 45) (e46 : M1 46 = M 46) (p k : Int) : echS M1 p k = echS M p k := by
  unfold echS kyF fK
  rw [e25, e44, e45, e46]
theorem p_tieEcho {a b : Int} (hV : Inv M) (ha : R32 a) (hb : R32 b) : Pair N M 4 3 mK_tieEcho mM_tieEcho [.inl a, .inl b] := by
  refine ⟨_, k_tieEcho ha hb hV.2.2.2.2 hV.2.2.1 hV.2.2.2.1 hV.1.2.1, ?_⟩
  rintro r S' M1 ⟨rfl, rfl, e1, e2⟩
  have pr := phV_rng hV.2.2.1 a
  by_cases q : tieEchoK M a b
  · have P := hV.2.2.1.2 (phV M a) (by have := q.1; omega) (by have := q.1; omega)
    have er := echS_rng hV.2.2.1 (p := phV M a) (by have := q.1; omega) (by have := q.1; omega) b
    have cr := cnt_rng (fK M (M 44 (phV M a))) 30
    obtain ⟨bb, k, w, n, hbb⟩ := hc_of P.2.1
    have em := e1 q bb k w n hbb
    have o : ∀ c' j, c' ≠ bb → M1 c' j = M c' j := fun c' j z => by rw [em, mset_ne (by omega), mset_ne (by omega), mset_ne (by omega)]
    have oc : ∀ c', c' ≠ bb → M1 c' = M c' := fun c' z => funext fun j => o c' j z
    have hI1 : MI M1 := mi_of hV.1 (fun c j z => o c j (by omega)) (hV.1.2.1.keep (fun c j z => o c j (by omega))) (fun c j z => o c j (by omega))
    have hP1 : PhI M1 := hV.2.2.1.keep (fun c j z => o c j (by omega))
    have hC1 : ChI M1 := hV.2.1.keep hV.1 ⟨oc _ (by omega), oc _ (by omega), oc _ (by omega), oc _ (by omega), oc _ (by omega), oc _ (by omega), oc _ (by omega), oc _ (by omega), oc _ (by omega)⟩ (fun c j z => o c j (by omega))
    have ep := ph_congr (oc 43 (by omega)) (o 24 25 (by omega)) a
    have ee := echS_congr (oc 25 (by omega)) (oc 44 (by omega)) (oc 45 (by omega)) (oc 46 (by omega)) (phV M a) b
    refine ⟨_, rfl, rfl, fun j => o 0 j (by omega), _, z_tieEcho ha hb hP1 hI1 hC1, ?_⟩
    rintro r' S'' M2 ⟨rfl, rfl, _, g2⟩
    have ev : tieEchoV M1 a b = tieEchoV M a b := by unfold tieEchoV; rw [ep, ee]
    obtain ⟨Ma, fm, e⟩ := g2 ⟨by rw [ep]; exact q.1, q.2.1, by rw [ep, ee]; exact q.2.2⟩
    rw [ep, ee, oc 44 (by omega), oc 45 (by omega), oc 46 (by omega)] at e
    rw [em] at fm
    have T := tie_inv hV hbb (by have := q.2.2; omega) fm
    exact ⟨by rw [ev], rfl, by rw [e]; exact T.1, by rw [e]; exact T.2⟩
  · have em := e2 q
    subst em
    refine ⟨_, rfl, rfl, fun _ => rfl, _, z_tieEcho ha hb hV.2.2.1 hV.1 hV.2.1, ?_⟩
    rintro r' S'' M2 ⟨rfl, rfl, g1, _⟩
    exact ⟨rfl, rfl, (hV.ak (g1 q)).1, (hV.ak (g1 q)).2⟩
end I4
