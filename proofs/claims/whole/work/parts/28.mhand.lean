/-! ===== ties of the reference; what leastOfHand answers ===== -/
def TieI (M : Mm) : Prop := ∀ h, h = 0 ∨ h = 1 → M 40 h = -9 ∨ (0 ≤ M 40 h ∧ M 40 h ≤ 28 ∧ 1 ≤ M 42 h ∧ M 42 h ≤ 15 ∧ M 40 h + M 42 h ≤ M 41 h ∧ M 41 h ≤ 29)
abbrev thd (M : Mm) (h : Int) : Prop := M 40 h ≠ -9 ∧ M 41 h + M 42 h ≤ cnt (fK M h) 30
theorem z_doesTieHold {N : Nat} {h : Int} {M : Mm} (hh : h = 0 ∨ h = 1) (hT : TieI M) : Ret 1 0 0 mM_doesTieHold [.inr 24, .inl h] (S0 N) M (Pu (S0 N) M (bi (thd M h))) := by
  have hr := cnt_rng (fK M h) 30
  have ht := hT h hh
  refine eM_doesTieHold [] 40 (Nat.le_of_ble_eq_true rfl) (fun hM => ?_)
  refine ⟨by omega, ⟨hM _ _, by decide⟩, ite_i (fun q => ?_) (fun q => ?_)⟩
  · exact ⟨Or.inl rfl, pu_eq (bi_f (fun h => h.1 q)).symm⟩
  · refine CL.pu (z_notesOf hh) (Nat.le_of_ble_eq_true rfl) ?_
    refine ⟨by omega, by omega, by omega, ite_i (fun q2 => ?_) (fun q2 => ?_)⟩
    · exact ⟨Or.inl rfl, pu_eq (bi_f (fun h => by have := h.2; omega)).symm⟩
    · exact ⟨Or.inr rfl, pu_eq (bi_t ⟨q, by omega⟩).symm⟩
theorem cnt_fr {M M' : Mm} {h : Int} (e : ∀ j, M' 25 j = M 25 j) : cnt (fK M' h) 30 = cnt (fK M h) 30 := cnt_congr 30 (fun m _ => e _)
theorem z_layTie {N : Nat} {h : Int} {M : Mm} (hh : h = 0 ∨ h = 1) (hT : TieI M) : Ret 2 0 0 mM_layTie [.inr 24, .inl h] (S0 N) M (Vo (S0 N) (mset (mset (mset M 24 10 (M 40 h)) 24 11 (M 41 h)) 24 12 (if thd M h then M 42 h else 0))) := by
  have f : ∀ c j, c ≠ 24 → (mset (mset M 24 10 (M 40 h)) 24 11 (M 41 h)) c j = M c j := fun c j hc => by rw [mset_ne (by omega), mset_ne (by omega)]
  have hT2 : TieI (mset (mset M 24 10 (M 40 h)) 24 11 (M 41 h)) := by
    intro h' hh'
    rw [f 40 _ (by omega), f 41 _ (by omega), f 42 _ (by omega)]; exact hT h' hh'
  have he : thd (mset (mset M 24 10 (M 40 h)) 24 11 (M 41 h)) h ↔ thd M h := by
    unfold thd
    rw [f 40 _ (by omega), f 41 _ (by omega), f 42 _ (by omega), cnt_fr (M := M) (fun j => f 25 j (by omega))]
  have g41 : (mset M 24 10 (M 40 h)) 41 h = M 41 h := mset_ne (by omega)
  refine eM_layTie [] 40 (Nat.le_of_ble_eq_true rfl) (fun hM => ?_)
  refine ⟨by omega, ⟨hM _ _, trivial⟩, by omega, ⟨by rw [g41]; exact hM _ _, trivial⟩, ?_⟩
  rw [g41]
  refine CL.bl (z_doesTieHold hh hT2) (Nat.le_of_ble_eq_true rfl) (fun q => ?_) (fun q => ?_)
  · refine ⟨R32_1, by omega, ⟨by rw [f 42 _ (by omega)]; exact hM _ _, trivial⟩, vo_eq ?_⟩
    rw [f 42 _ (by omega), if_pos (he.mp q)]
  · refine ⟨R32_0, ⟨by decide, trivial⟩, vo_eq ?_⟩
    rw [if_neg (fun z => q (he.mpr z))]
/-! the same data give the same tables -/
def DEq (M M' : Mm) : Prop := M' 24 6 = M 24 6 ∧ M' 24 7 = M 24 7 ∧ M' 24 12 = M 24 12 ∧ (0 < M 24 12 → M' 24 10 = M 24 10 ∧ M' 24 11 = M 24 11) ∧ (∀ k, 0 ≤ k → k < M 24 7 → M' 31 k = M 31 k ∧ M' 32 k = M 32 k) ∧ M' 27 = M 27 ∧ M' 28 = M 28 ∧ M' 29 = M 29 ∧ M' 30 = M 30
theorem bz_congr {w w' : Int → Int → Int → Int} {e lo : Int} {T T' : Int → Int} (hw : ∀ k f g, lo ≤ k → k < e → 1 ≤ f → f ≤ 5 → 1 ≤ g → g ≤ 5 → w' k f g = w k f g) (hT : ∀ f, 1 ≤ f → f ≤ 5 → T' f = T f) {k f : Int} (h0 : lo ≤ k) (h1 : k ≤ e) (hf0 : 1 ≤ f) (hf1 : f ≤ 5) : bz w' e T' k f = bz w e T k f := by
  have key : ∀ (d : Nat), (d : Int) ≤ e - lo → ∀ f, 1 ≤ f → f ≤ 5 → bv w' e T' d f = bv w e T d f := by
    intro d
    induction d with
    | zero => intro _ f h1 h2; exact hT f h1 h2
    | succ d ih =>
      intro hd f h1 h2
      unfold bv
      exact m5_congr (fun g q1 q2 => by rw [hw _ f g (by omega) (by omega) h1 h2 q1 q2, ih (by omega) g q1 q2])
  unfold bz
  exact key _ (by omega) f hf0 hf1
section Eq
variable {M M' : Mm}
theorem de_go (h : DEq M M') {k f g : Int} (h0 : 0 ≤ k) (h1 : k + 1 < M 24 7) : goM M' k f g = goM M k f g ∧ stM M' k f g = stM M k f g := by
  obtain ⟨e6, e7, e12, e10, ek, r7, r8, r9, r0⟩ := h
  have a1 := ek k h0 (by omega)
  have a2 := ek (k + 1) (by omega) h1
  unfold goM okM ncM stM
  rw [a1.1, a2.1, a2.2, e6, r7, r8, r9, r0]
  exact ⟨rfl, rfl⟩
theorem de_ok (h : DEq M M') {k f : Int} (h0 : 0 ≤ k) (h1 : k < M 24 7) : M' 32 k = M 32 k ∧ ncM M' k f = ncM M k f := by
  obtain ⟨e6, e7, e12, e10, ek, r7, r8, r9, r0⟩ := h
  have a1 := ek k h0 h1
  unfold ncM
  rw [a1.1, a1.2, r0]
  exact ⟨rfl, rfl⟩
theorem de_rsT (h : DEq M M') {k f : Int} (h0 : 0 ≤ k) (h1 : k ≤ M 24 7 - 1) (hf0 : 1 ≤ f) (hf1 : f ≤ 5) : rsT M' k f = rsT M k f := by
  unfold rsT
  rw [h.2.1]
  exact bz_congr (lo := 0) (fun k f g q1 q2 _ _ _ _ => (de_go h q1 (by omega)).1) (fun _ _ _ => rfl) h0 h1 hf0 hf1
theorem de_rsX (h : DEq M M') (hT : TOk M) {x k f : Int} (h0 : 0 ≤ k) (h1 : k ≤ M 24 11 - 1) (hf0 : 1 ≤ f) (hf1 : f ≤ 5) : rsX M' x k f = rsX M x k f := by
  obtain ⟨t1, t2, t3, t4⟩ := id hT
  have e := h.2.2.2.1 t1
  unfold rsX
  rw [e.2]
  exact bz_congr (lo := 0) (fun k f g q1 q2 _ _ _ _ => (de_go h q1 (by omega)).1) (fun f _ _ => (de_go (f := f) (g := x) h (k := M 24 11 - 1) (by omega) (by omega)).2) h0 h1 hf0 hf1
theorem de_js (h : DEq M M') (hT : TOk M) {k f g : Int} (h0 : 0 ≤ k) (h1 : k + 1 < M 24 12) : jsM M' k f g = jsM M k f g := by
  obtain ⟨t1, t2, t3, t4⟩ := id hT
  have e := h.2.2.2.1 t1
  unfold jsM okM
  rw [e.1, e.2, (de_ok h (k := M 24 10 + (k + 1)) (f := g) (by omega) (by omega)).1, (de_ok h (k := M 24 11 + (k + 1)) (f := g) (by omega) (by omega)).1, (de_go h (k := M 24 10 + k) (by omega) (by omega)).1, (de_go h (k := M 24 11 + k) (by omega) (by omega)).1]
theorem de_jtX (h : DEq M M') (hT : TOk M) {x k f : Int} (h0 : 0 ≤ k) (h1 : k ≤ M 24 12 - 1) (hf0 : 1 ≤ f) (hf1 : f ≤ 5) : jtX M' x k f = jtX M x k f := by
  obtain ⟨t1, t2, t3, t4⟩ := id hT
  have e := h.2.2.2.1 t1
  unfold jtX
  rw [h.2.2.1, e.1, e.2]
  exact bz_congr (lo := 0) (fun k f g q1 q2 _ _ _ _ => de_js h hT q1 (by omega)) (fun f q1 q2 => by rw [de_rsX h hT (by omega) (by omega) q1 q2, de_rsT h (by omega) (by omega) q1 q2]) h0 h1 hf0 hf1
theorem de_wtX (h : DEq M M') (hT : TOk M) {x : Int} (hx0 : 1 ≤ x) (hx1 : x ≤ 5) : wtX M' x = wtX M x := by
  obtain ⟨t1, t2, t3, t4⟩ := id hT
  have e := h.2.2.2.1 t1
  unfold wtX okM
  rw [e.1, e.2, (de_ok h (k := M 24 10) (f := x) (by omega) (by omega)).1, (de_ok h (k := M 24 11) (f := x) (by omega) (by omega)).1, (de_ok h (k := M 24 11) (f := x) (by omega) (by omega)).2, de_jtX h hT (by omega) (by omega) hx0 hx1]
theorem de_rsH (h : DEq M M') (hT : TOk M) {k f : Int} (h0 : 0 ≤ k) (h1 : k ≤ M 24 10) (hf0 : 1 ≤ f) (hf1 : f ≤ 5) : rsH M' k f = rsH M k f := by
  obtain ⟨t1, t2, t3, t4⟩ := id hT
  have e := h.2.2.2.1 t1
  unfold rsH
  rw [e.1]
  exact bz_congr (lo := 0) (fun k f g q1 q2 _ _ _ _ => (de_go h q1 (by omega)).1) (fun f q1 q2 => de_wtX h hT q1 q2) h0 h1 hf0 hf1
theorem de_lrV (h : DEq M M') (ht : M 24 12 = 0 ∨ TOk M) (h0 : 0 ≤ M 24 7) : lrV M' = lrV M := by
  unfold lrV
  rw [h.2.1]
  by_cases hn : M 24 7 = 0
  · rw [if_pos hn, if_pos hn]
  · rw [if_neg hn, if_neg hn]
    have e : tot M' = tot M := by
      unfold tot
      refine m5_congr (fun f q1 q2 => ?_)
      have eo := de_ok h (k := 0) (f := f) (by omega) (by omega)
      unfold stC okM
      rw [eo.1, eo.2]
      have ea : A0 M' f = A0 M f := by
        unfold A0
        rw [h.2.2.1]
        rcases ht with ht | ht
        · rw [if_neg (by omega), if_neg (by omega)]; exact de_rsT h (by omega) (by omega) q1 q2
        · have t := ht.1
          rw [if_pos t, if_pos t]
          exact de_rsH h ht (by omega) ht.2.1 q1 q2
      rw [ea]
    rw [e]
end Eq
/-- what is laid out of hand h -/
def LM (M : Mm) (h : Int) : Mm := fun c j =>
  if c = 31 then M 25 (30 * h + nmo (fK M h) j 30)
  else if c = 32 then cod (M 26 (30 * h + nmo (fK M h) j 30))
  else if c = 24 then (if j = 6 then h else if j = 7 then cnt (fK M h) 30 else if j = 10 then M 40 h else if j = 11 then M 41 h else if j = 12 then (if thd M h then M 42 h else 0) else M 24 j)
  else M c j
section LMs
variable {M : Mm} {h : Int}
theorem LM_6 : LM M h 24 6 = h := by simp [LM]
theorem LM_7 : LM M h 24 7 = cnt (fK M h) 30 := by simp [LM]
theorem LM_10 : LM M h 24 10 = M 40 h := by simp [LM]
theorem LM_11 : LM M h 24 11 = M 41 h := by simp [LM]
theorem LM_12 : LM M h 24 12 = (if thd M h then M 42 h else 0) := by simp [LM]
theorem LM_31 (k : Int) : LM M h 31 k = M 25 (30 * h + nmo (fK M h) k 30) := by simp [LM]
theorem LM_32 (k : Int) : LM M h 32 k = cod (M 26 (30 * h + nmo (fK M h) k 30)) := by simp [LM]
theorem LM_o (c : Nat) (hc : c ≠ 24 ∧ c ≠ 31 ∧ c ≠ 32) : LM M h c = M c := by funext j; simp [LM, hc.1, hc.2.1, hc.2.2]
theorem LM_ok (hh : h = 0 ∨ h = 1) (hR : RuI M) (hK : KyI M) : LOk (LM M h) := by
  have hr := cnt_rng (fK M h) 30
  refine ⟨?_, ?_, ?_, ?_, fun k h0 h1 => ?_⟩
  · unfold RuI at *
    rw [LM_o 3 (by omega), LM_o 4 (by omega), LM_o 27 (by omega), LM_o 28 (by omega), LM_o 29 (by omega), LM_o 30 (by omega)]
    exact hR
  · rw [LM_6]; exact hh
  · rw [LM_7]; omega
  · rw [LM_7]; omega
  · rw [LM_7] at h1
    have := nmo_ok h0 h1
    rw [LM_31]
    have hk := hK (30 * h + nmo (fK M h) k 30) (by omega) (by omega)
    have hne : M 25 (30 * h + nmo (fK M h) k 30) ≠ -9 := this.2.2.1
    omega
theorem LM_tie (hh : h = 0 ∨ h = 1) (hT : TieI M) : LM M h 24 12 = 0 ∨ TOk (LM M h) := by
  rw [LM_12]
  have ht := hT h hh
  by_cases hc : thd M h
  · right
    unfold TOk
    rw [LM_12, LM_10, LM_11, LM_7, if_pos hc]
    have := hc.1
    have := hc.2
    omega
  · left; rw [if_neg hc]
end LMs
/-- what the best row of hand h costs -/
def bst (M : Mm) (h : Int) : Int := lrV (LM M h)
/-- scratch of the reference: rows that are laid out anew each time -/
abbrev scM (c : Nat) (j : Int) : Prop := (31 ≤ c ∧ c ≤ 37) ∨ (c = 24 ∧ (j = 6 ∨ j = 7 ∨ j = 10 ∨ j = 11 ∨ j = 12))
def FrM (M M' : Mm) : Prop := ∀ c j, ¬ scM c j → M' c j = M c j
theorem laid_de {M M1 : Mm} {h : Int} (hh : h = 0 ∨ h = 1) (hl : Laid M M1 h) : DEq (LM M h) (mset (mset (mset M1 24 10 (M1 40 h)) 24 11 (M1 41 h)) 24 12 (if thd M1 h then M1 42 h else 0)) ∧ FrM M (mset (mset (mset M1 24 10 (M1 40 h)) 24 11 (M1 41 h)) 24 12 (if thd M1 h then M1 42 h else 0)) := by
  obtain ⟨l1, l2, l3, l4⟩ := hl
  have f : ∀ c, c ≠ 24 → c ≠ 31 → c ≠ 32 → M1 c = M c := fun c h1 h2 h3 => by funext j; exact l4 c j (by omega)
  have ht : thd M1 h ↔ thd M h := by unfold thd; rw [f 40 (by omega) (by omega) (by omega), f 41 (by omega) (by omega) (by omega), f 42 (by omega) (by omega) (by omega), cnt_fr (M := M) (fun j => by rw [f 25 (by omega) (by omega) (by omega)])]
  have hif : (if thd M1 h then M1 42 h else 0) = (if thd M h then M 42 h else 0) := by
    by_cases hc : thd M h
    · rw [if_pos hc, if_pos (ht.mpr hc), f 42 (by omega) (by omega) (by omega)]
    · rw [if_neg hc, if_neg (fun z => hc (ht.mp z))]
  refine ⟨⟨?_, ?_, ?_, fun _ => ⟨?_, ?_⟩, fun k h0 h1 => ?_, ?_, ?_, ?_, ?_⟩, fun c j hs => ?_⟩
  · rw [LM_6, mset_ne (by omega), mset_ne (by omega), mset_ne (by omega)]; exact l1
  · rw [LM_7, mset_ne (by omega), mset_ne (by omega), mset_ne (by omega)]; exact l2
  · rw [LM_12, mset_eq]; exact hif
  · rw [LM_10, mset_ne (by omega), mset_ne (by omega), mset_eq, f 40 (by omega) (by omega) (by omega)]
  · rw [LM_11, mset_ne (by omega), mset_eq, f 41 (by omega) (by omega) (by omega)]
  · rw [LM_7] at h1
    obtain ⟨m, a, b, c⟩ := nmo_ex h0 h1
    have h3 := l3 m a b
    rw [c] at h3
    rw [LM_31, LM_32, nmo_is a b c]
    refine ⟨?_, ?_⟩
    · rw [mset_ne (by omega), mset_ne (by omega), mset_ne (by omega)]; exact h3.1
    · rw [mset_ne (by omega), mset_ne (by omega), mset_ne (by omega)]; exact h3.2
  · rw [LM_o 27 (by omega)]; funext j; rw [mset_ne (by omega), mset_ne (by omega), mset_ne (by omega)]; exact l4 _ _ (by omega)
  · rw [LM_o 28 (by omega)]; funext j; rw [mset_ne (by omega), mset_ne (by omega), mset_ne (by omega)]; exact l4 _ _ (by omega)
  · rw [LM_o 29 (by omega)]; funext j; rw [mset_ne (by omega), mset_ne (by omega), mset_ne (by omega)]; exact l4 _ _ (by omega)
  · rw [LM_o 30 (by omega)]; funext j; rw [mset_ne (by omega), mset_ne (by omega), mset_ne (by omega)]; exact l4 _ _ (by omega)
  · rw [mset_ne (by omega), mset_ne (by omega), mset_ne (by omega)]; exact l4 c j (by omega)
theorem LOk.de {M M' : Mm} (h : DEq M M') (hL : LOk M) (hR : RuI M') : LOk M' := by
  obtain ⟨l1, l2, l3, l4, l5⟩ := hL
  refine ⟨hR, by rw [h.1]; exact l2, by rw [h.2.1]; exact l3, by rw [h.2.1]; exact l4, fun k h0 h1 => ?_⟩
  rw [h.2.1] at h1
  rw [(h.2.2.2.2.1 k h0 h1).1]; exact l5 k h0 h1
theorem tie_de {M M' : Mm} (h : DEq M M') (ht : M 24 12 = 0 ∨ TOk M) : M' 24 12 = 0 ∨ TOk M' := by
  rcases ht with ht | ht
  · left; rw [h.2.2.1]; exact ht
  · right
    have e := h.2.2.2.1 ht.1
    unfold TOk
    rw [h.2.2.1, e.1, e.2, h.2.1]; exact ht
/-- what must hold of a state of the reference -/
def MI (M : Mm) : Prop := RuI M ∧ KyI M ∧ TieI M
theorem MI.fr {M M' : Mm} (h : MI M) (hF : FrM M M') : MI M' := by
  have f : ∀ c, c < 31 → c ≠ 24 → M' c = M c := fun c h1 h2 => by funext j; exact hF c j (by omega)
  have g : ∀ c, 37 < c → M' c = M c := fun c h1 => by funext j; exact hF c j (by omega)
  obtain ⟨h1, h2, h3⟩ := h
  refine ⟨?_, ?_, ?_⟩
  · unfold RuI at *; rw [f 3 (by omega) (by omega), f 4 (by omega) (by omega), f 27 (by omega) (by omega), f 28 (by omega) (by omega), f 29 (by omega) (by omega), f 30 (by omega) (by omega)]; exact h1
  · unfold KyI at *; rw [f 25 (by omega) (by omega), f 26 (by omega) (by omega)]; exact h2
  · unfold TieI at *; rw [g 40 (by omega), g 41 (by omega), g 42 (by omega)]; exact h3
theorem z_leastOfHand {N : Nat} {h : Int} {M : Mm} (hh : h = 0 ∨ h = 1) (hI : MI M) : Ret 9 0 0 mM_leastOfHand [.inr 24, .inl h] (S0 N) M (fun r S' M' => r = some (.inl (bst M h)) ∧ S' = S0 N ∧ FrM M M' ∧ ∃ M2, DEq (LM M h) M2 ∧ FrM M M2 ∧ Agr M2 M' ∧ (0 < M2 24 7 → RT M2 M')) := by
  obtain ⟨i1, i2, i3⟩ := id hI
  refine eM_leastOfHand [] 30 (Nat.le_of_ble_eq_true rfl) (fun hM => ?_)
  refine ⟨0, _, (Nat.le_of_ble_eq_true rfl), z_layNotes hh i2, ?_⟩
  rintro r S' M1 ⟨rfl, rfl, hl⟩ hM1
  have hI1 : MI M1 := hI.fr (fun c j hs => hl.2.2.2 c j (by omega))
  refine CL.vo (z_layTie hh hI1.2.2) (Nat.le_of_ble_eq_true rfl) (fun hM2 => ?_)
  obtain ⟨d1, d2⟩ := laid_de hh hl
  generalize (mset (mset (mset M1 24 10 (M1 40 h)) 24 11 (M1 41 h)) 24 12 (if thd M1 h then M1 42 h else 0)) = M2 at d1 d2 hM2
  have hL0 := LM_ok hh i1 i2
  have ht0 := LM_tie hh i3
  refine ⟨8, _, (Nat.le_of_ble_eq_true rfl), z_leastRow (M0 := M2) (fun c j _ => rfl) (tie_de d1 ht0) (hL0.de d1 (hI.fr d2).1), ?_⟩
  rintro r S' M3 ⟨rfl, rfl, hA, hR⟩ hM3
  refine ⟨?_, rfl, fun c j hs => ?_, M2, d1, d2, hA, hR⟩
  · rw [de_lrV d1 ht0 hL0.2.2.1]; rfl
  · rw [hA c j (by omega)]; exact d2 c j hs
