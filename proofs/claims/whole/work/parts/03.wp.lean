theorem mo_entry {y o : Nat} {isI : Bool} {rt : Option FieldType} {P : List En} (hm : MO y o isI rt P) {pc : Nat} {i : Instr} {nx : Nat} {ax : List (Int × Nat)} (he : (pc, i, nx, ax) ∈ P) :
    DC y pc i (nx - pc) ∧ OC y o ∧ (isTs i = true ∨ nx = pc + iln i) ∧ (∀ r : MRec, mtb[y]? = some r → r.2.2.2.1 = rt) ∧ (isI = true → ∀ r : MRec, mtb[y]? = some r → r.1.name = "<init>") ∧ ∃ r : MRec, mtb[y]? = some r ∧ chk r.2.2.1 pc ax i = true := by
  obtain ⟨r, hr, h1, h2, h3, h4, h5⟩ := hm
  have h6 := List.all_eq_true.mp h5 _ he
  unfold okE at h6
  simp only [Bool.and_eq_true, decide_eq_true_eq, Bool.or_eq_true] at h6
  obtain ⟨⟨g1, g2⟩, g3⟩ := h6
  have hu : ∀ r' : MRec, mtb[y]? = some r' → r' = r := fun r' h => Option.some.inj (h.symm.trans hr)
  refine ⟨fun r' h => by rw [hu r' h]; exact g1, ⟨h2, fun r' h => by rw [hu r' h]; exact h1⟩, g2, fun r' h => by rw [hu r' h]; exact h3, fun hi r' h => by rw [hu r' h]; exact h4 hi, r, hr, g3⟩
theorem LT_of {y i : Nat} {r : MRec} (hr : mtb[y]? = some r) (h : Nat.blt i r.2.2.1 = true) : LT y i := fun r' h' => by
  have : r' = r := Option.some.inj (h'.symm.trans hr)
  rw [this]; exact Nat.le_of_ble_eq_true h
theorem okPut_of {isI fin : Bool} {o ci tk y : Nat} {x : Int} (h : okPut isI fin o ci tk x) (hi : isI = true → ∀ r : MRec, mtb[y]? = some r → r.1.name = "<init>") : tk < 2 ∧ (tk = 1 → x = 0 ∨ x = 1) ∧ (fin = true → o = ci ∧ ∀ r : MRec, mtb[y]? = some r → r.1.name = "<init>") := by
  have key : (bif fin then (bif isI && Nat.beq o ci then True else False) else True) → (fin = true → o = ci ∧ ∀ r : MRec, mtb[y]? = some r → r.1.name = "<init>") := by
    intro h hf
    rw [hf] at h
    cases hI : isI with
    | false => rw [hI] at h; exact False.elim h
    | true =>
      rw [hI] at h
      cases hb : Nat.beq o ci with
      | false => rw [hb] at h; exact False.elim h
      | true => exact ⟨Nat.eq_of_beq_eq_true hb, hi hI⟩
  match tk, h with
  | 0, h => exact ⟨by omega, fun h => by omega, key h⟩
  | 1, h => exact ⟨by omega, fun _ => h.1, key h.2⟩

set_option maxHeartbeats 4000000 in
theorem stp_sound {d mc ms kc ks y o : Nat} {isI fin : Bool} {rt : Option FieldType} {Φ : Option Vl → Ly → Mm → Prop} {P : List En} {i : Instr} {pc nx : Nat} {ax : List (Int × Nat)} {L : Lc} {st : List Vl} {S : Ly} {M : Mm} {K : Nat → Lc → List Vl → Ly → Mm → Prop} (hm : MO y o isI rt P) (he : (pc, i, nx, ax) ∈ P) (hkm : kc ≤ mc) (hks : ks ≤ ms) (hfin : fin = true → kc = mc ∧ ks ≤ ms)
    (hK : ∀ pc' L' st' S' M', K pc' L' st' S' M' → AJ d mc ms y Φ kc ks pc' L' st' S' M') (h : stp d y o isI fin rt Φ i nx ax L st S M K) : AJ d mc ms y Φ kc ks pc L st S M := by
  obtain ⟨hd, ho, hnx, hrt, hini, r0, hr0, hch⟩ := mo_entry hm he
  cases i with
  | iload_n k =>
    obtain rfl : nx = pc + 1 := by
      rcases hnx with q | q
      · cases q
      · exact q
    dsimp only [stp] at h
    split at h
    · rename_i x hg
      exact A_iload_n (by simpa using hd) hg (hK _ _ _ _ _ h)
    · exact False.elim h
  | iload k =>
    obtain rfl : nx = pc + 2 := by
      rcases hnx with q | q
      · cases q
      · exact q
    dsimp only [stp] at h
    split at h
    · rename_i x hg
      exact A_iload (by simpa using hd) hg (hK _ _ _ _ _ h)
    · exact False.elim h
  | aload_n k =>
    obtain rfl : nx = pc + 1 := by
      rcases hnx with q | q
      · cases q
      · exact q
    dsimp only [stp] at h
    split at h
    · rename_i x hg
      exact A_aload_n (by simpa using hd) hg (hK _ _ _ _ _ h)
    · exact False.elim h
  | aload k =>
    obtain rfl : nx = pc + 2 := by
      rcases hnx with q | q
      · cases q
      · exact q
    dsimp only [stp] at h
    split at h
    · rename_i x hg
      exact A_aload (by simpa using hd) hg (hK _ _ _ _ _ h)
    · exact False.elim h
  | istore_n k =>
    obtain rfl : nx = pc + 1 := by
      rcases hnx with q | q
      · cases q
      · exact q
    dsimp only [stp] at h
    split at h
    · rw [setK_eq] at h
      exact A_istore_n (by simpa using hd) (LT_of hr0 hch) (hK _ _ _ _ _ h)
    · exact False.elim h
  | istore k =>
    obtain rfl : nx = pc + 2 := by
      rcases hnx with q | q
      · cases q
      · exact q
    dsimp only [stp] at h
    split at h
    · rw [setK_eq] at h
      exact A_istore (by simpa using hd) (LT_of hr0 hch) (hK _ _ _ _ _ h)
    · exact False.elim h
  | astore_n k =>
    obtain rfl : nx = pc + 1 := by
      rcases hnx with q | q
      · cases q
      · exact q
    dsimp only [stp] at h
    split at h
    · rw [setK_eq] at h
      exact A_astore_n (by simpa using hd) (LT_of hr0 hch) (hK _ _ _ _ _ h)
    · exact False.elim h
  | astore k =>
    obtain rfl : nx = pc + 2 := by
      rcases hnx with q | q
      · cases q
      · exact q
    dsimp only [stp] at h
    split at h
    · rw [setK_eq] at h
      exact A_astore (by simpa using hd) (LT_of hr0 hch) (hK _ _ _ _ _ h)
    · exact False.elim h
  | iinc k n =>
    obtain rfl : nx = pc + 3 := by
      rcases hnx with q | q
      · cases q
      · exact q
    dsimp only [stp] at h
    split at h
    · rename_i x hg
      rw [setK_eq] at h
      exact A_iinc (by simpa using hd) (LT_of hr0 hch) hg (hK _ _ _ _ _ h)
    · exact False.elim h
  | iconst n =>
    obtain rfl : nx = pc + 1 := by
      rcases hnx with q | q
      · cases q
      · exact q
    exact A_iconst (by simpa using hd) (hK _ _ _ _ _ h)
  | bipush n =>
    obtain rfl : nx = pc + 2 := by
      rcases hnx with q | q
      · cases q
      · exact q
    simp only [chk, Bool.and_eq_true, decide_eq_true_eq] at hch
    exact A_bipush (by simpa using hd) hch.1 hch.2 (hK _ _ _ _ _ h)
  | sipush n =>
    obtain rfl : nx = pc + 3 := by
      rcases hnx with q | q
      · cases q
      · exact q
    simp only [chk, Bool.and_eq_true, decide_eq_true_eq] at hch
    exact A_sipush (by simpa using hd) hch.1 hch.2 (hK _ _ _ _ _ h)
  | ldc idx =>
    obtain rfl : nx = pc + 2 := by
      rcases hnx with q | q
      · cases q
      · exact q
    dsimp only [stp] at h
    split at h
    · rename_i v hv
      exact A_ldc (by simpa using hd) ho hv (hK _ _ _ _ _ h)
    · exact False.elim h
  | iadd =>
    obtain rfl : nx = pc + 1 := by
      rcases hnx with q | q
      · cases q
      · exact q
    dsimp only [stp] at h
    split at h
    · exact A_iadd (by simpa using hd) (hK _ _ _ _ _ h)
    · exact False.elim h
  | isub =>
    obtain rfl : nx = pc + 1 := by
      rcases hnx with q | q
      · cases q
      · exact q
    dsimp only [stp] at h
    split at h
    · exact A_isub (by simpa using hd) (hK _ _ _ _ _ h)
    · exact False.elim h
  | imul =>
    obtain rfl : nx = pc + 1 := by
      rcases hnx with q | q
      · cases q
      · exact q
    dsimp only [stp] at h
    split at h
    · exact A_imul (by simpa using hd) (hK _ _ _ _ _ h)
    · exact False.elim h
  | ineg =>
    obtain rfl : nx = pc + 1 := by
      rcases hnx with q | q
      · cases q
      · exact q
    dsimp only [stp] at h
    split at h
    · exact A_ineg (by simpa using hd) (hK _ _ _ _ _ h)
    · exact False.elim h
  | iand =>
    obtain rfl : nx = pc + 1 := by
      rcases hnx with q | q
      · cases q
      · exact q
    dsimp only [stp] at h
    split at h
    · exact A_iand (by simpa using hd) (hK _ _ _ _ _ h)
    · exact False.elim h
  | ishl =>
    obtain rfl : nx = pc + 1 := by
      rcases hnx with q | q
      · cases q
      · exact q
    dsimp only [stp] at h
    split at h
    · exact A_ishl (by simpa using hd) (hK _ _ _ _ _ h)
    · exact False.elim h
  | ishr =>
    obtain rfl : nx = pc + 1 := by
      rcases hnx with q | q
      · cases q
      · exact q
    dsimp only [stp] at h
    split at h
    · exact A_ishr (by simpa using hd) (hK _ _ _ _ _ h)
    · exact False.elim h
  | dup =>
    obtain rfl : nx = pc + 1 := by
      rcases hnx with q | q
      · cases q
      · exact q
    dsimp only [stp] at h
    split at h
    · exact A_dup (by simpa using hd) (hK _ _ _ _ _ h)
    · exact False.elim h
  | idiv =>
    obtain rfl : nx = pc + 1 := by
      rcases hnx with q | q
      · cases q
      · exact q
    dsimp only [stp] at h
    split at h
    · exact A_idiv (by simpa using hd) h.1.1 h.1.2 (hK _ _ _ _ _ h.2)
    · exact False.elim h
  | irem =>
    obtain rfl : nx = pc + 1 := by
      rcases hnx with q | q
      · cases q
      · exact q
    dsimp only [stp] at h
    split at h
    · exact A_irem (by simpa using hd) h.1.1 h.1.2 (hK _ _ _ _ _ h.2)
    · exact False.elim h
  | getfield idx =>
    obtain rfl : nx = pc + 3 := by
      rcases hnx with q | q
      · cases q
      · exact q
    dsimp only [stp] at h
    split at h
    · rename_i a st'
      split at h
      · rename_i ci kf kI fn tk hf
        split at h
        · rename_i ci' fs hs
          cases hbq : Nat.beq ci' ci with
          | false => rw [hbq] at h; exact False.elim h
          | true =>
            rw [hbq] at h
            obtain rfl := Nat.eq_of_beq_eq_true hbq
            dsimp only [cond_true] at h
            split at h
            · rename_i hk
              exact A_getI (by simpa using hd) ho hf hs hk (hK _ _ _ _ _ h)
            · rename_i rr hk
              exact A_getR (by simpa using hd) ho hf hs hk (hK _ _ _ _ _ h)
            · exact False.elim h
        · exact False.elim h
      · exact False.elim h
    · exact False.elim h
  | putfield idx =>
    obtain rfl : nx = pc + 3 := by
      rcases hnx with q | q
      · cases q
      · exact q
    dsimp only [stp] at h
    split at h
    · rename_i x a st'
      split at h
      · rename_i ci kf kI fn tk hf
        split at h
        · rename_i ci' fs hs
          cases hbq : Nat.beq ci' ci with
          | false => rw [hbq] at h; exact False.elim h
          | true =>
            rw [hbq] at h
            obtain rfl := Nat.eq_of_beq_eq_true hbq
            dsimp only [cond_true] at h
            split at h
            · rename_i hk
              obtain ⟨g1, g2, g3⟩ := okPut_of h.1.2 hini
              exact A_putI (by simpa using hd) ho hf hs hk h.1.1 g1 g2 g3 (hK _ _ _ _ _ h.2)
            · exact False.elim h
        · exact False.elim h
      · exact False.elim h
    · rename_i rr a st'
      split at h
      · rename_i ci kf kI hf
        split at h
        · rename_i ci' fs hs
          cases hbq : (Nat.beq ci' ci && (isI && Nat.beq o ci) && Nat.blt kf fs.length) with
          | false => rw [hbq] at h; exact False.elim h
          | true =>
            rw [hbq] at h
            simp only [Bool.and_eq_true] at hbq
            obtain ⟨⟨q1, q2, q3⟩, q4⟩ := hbq
            obtain rfl := Nat.eq_of_beq_eq_true q1
            exact A_putR (by simpa using hd) ho hf hs (Nat.le_of_ble_eq_true q4) rfl ⟨Nat.eq_of_beq_eq_true q3, hini q2⟩ (hK _ _ _ _ _ h)
        · exact False.elim h
      · exact False.elim h
    · exact False.elim h
  | iaload =>
    obtain rfl : nx = pc + 1 := by
      rcases hnx with q | q
      · cases q
      · exact q
    dsimp only [stp] at h
    split at h
    · split at h
      · rename_i hs
        exact A_iald (by simpa using hd) hs h.1.1 h.1.2.1 h.1.2.2 (hK _ _ _ _ _ h.2)
      · exact False.elim h
    · exact False.elim h
  | iastore =>
    obtain rfl : nx = pc + 1 := by
      rcases hnx with q | q
      · cases q
      · exact q
    dsimp only [stp] at h
    split at h
    · split at h
      · rename_i hs
        exact A_iast (by simpa using hd) hs h.1.1 h.1.2.1 h.1.2.2.1 h.1.2.2.2.1 h.1.2.2.2.2 (hK _ _ _ _ _ h.2)
      · exact False.elim h
    · exact False.elim h
  | arraylength =>
    obtain rfl : nx = pc + 1 := by
      rcases hnx with q | q
      · cases q
      · exact q
    dsimp only [stp] at h
    split at h
    · split at h
      · rename_i hs
        exact A_alen (by simpa using hd) hs (hK _ _ _ _ _ h)
      · exact False.elim h
    · exact False.elim h
  | goto off =>
    obtain rfl : nx = pc + 3 := by
      rcases hnx with q | q
      · cases q
      · exact q
    dsimp only [stp] at h
    split at h
    · simp only [chk, decide_eq_true_eq] at hch
      exact A_goto (by simpa using hd) hch (hK _ _ _ _ _ h)
    · exact False.elim h
  | ifCond c off =>
    obtain rfl : nx = pc + 3 := by
      rcases hnx with q | q
      · cases q
      · exact q
    dsimp only [stp] at h
    split at h
    · simp only [chk, decide_eq_true_eq] at hch
      exact A_ifCond (by simpa using hd) hch h.1 (fun q => hK _ _ _ _ _ ((brn_spec h.2).1 q)) (fun q => hK _ _ _ _ _ ((brn_spec h.2).2 q))
    · exact False.elim h
  | if_icmp c off =>
    obtain rfl : nx = pc + 3 := by
      rcases hnx with q | q
      · cases q
      · exact q
    dsimp only [stp] at h
    split at h
    · simp only [chk, decide_eq_true_eq] at hch
      exact A_if_icmp (by simpa using hd) hch h.1.1 h.1.2 (fun q => hK _ _ _ _ _ ((brn_spec h.2).1 q)) (fun q => hK _ _ _ _ _ ((brn_spec h.2).2 q))
    · exact False.elim h
  | tableswitch dd lo hi offs =>
    dsimp only [stp] at h
    split at h
    · rename_i x st' q0 t tl
      simp only [chk, Bool.and_eq_true, decide_eq_true_eq, List.all_eq_true, List.mem_range] at hch
      obtain ⟨⟨g1, g2⟩, g3⟩ := hch
      refine A_tableswitch hd h.1 g1 g2 (fun j hj => ?_) (fun q => hK _ _ _ _ _ (h.2.1 q)) (fun v t ht hxv => hK _ _ _ _ _ (swK_spec h.2.2 v t ht hxv))
      have g4 := g3 j hj
      split at g4
      · rename_i o1 v t2 e1 e2
        simp only [Bool.and_eq_true, decide_eq_true_eq] at g4
        exact ⟨o1, t2, e1, g4.1, by rw [← g4.2]; exact List.mem_of_getElem? e2⟩
      · cases g4
    · exact False.elim h
  | ireturn =>
    obtain rfl : nx = pc + 1 := by
      rcases hnx with q | q
      · cases q
      · exact q
    dsimp only [stp] at h
    cases hf : fin with
    | false => rw [hf] at h; exact False.elim h
    | true =>
      rw [hf] at h
      dsimp only [cond_true] at h
      obtain ⟨e1, e2⟩ := hfin hf
      split at h
      · split at h
        · exact A_iret (st := []) (by simpa using hd) hrt e1 e2 h
        · exact A_zret (st := []) (by simpa using hd) hrt h.1 e1 e2 h.2
        · exact False.elim h
      · exact False.elim h
  | areturn =>
    obtain rfl : nx = pc + 1 := by
      rcases hnx with q | q
      · cases q
      · exact q
    dsimp only [stp] at h
    cases hf : fin with
    | false => rw [hf] at h; exact False.elim h
    | true =>
      rw [hf] at h
      dsimp only [cond_true] at h
      obtain ⟨e1, e2⟩ := hfin hf
      split at h
      · split at h
        · exact A_aret (st := []) (by simpa using hd) hrt e1 e2 h
        · exact False.elim h
      · exact False.elim h
  | return_ =>
    obtain rfl : nx = pc + 1 := by
      rcases hnx with q | q
      · cases q
      · exact q
    dsimp only [stp] at h
    cases hf : fin with
    | false => rw [hf] at h; exact False.elim h
    | true =>
      rw [hf] at h
      dsimp only [cond_true] at h
      obtain ⟨e1, e2⟩ := hfin hf
      split at h
      · split at h
        · exact A_vret (st := []) (by simpa using hd) hrt e1 e2 h
        · exact False.elim h
      · exact False.elim h
  | invokevirtual idx =>
    obtain rfl : nx = pc + 3 := by
      rcases hnx with q | q
      · cases q
      · exact q
    dsimp only [stp] at h
    split at h
    · rename_i y' np cl hc
      obtain ⟨as, rest, h1, h2, h3⟩ := popK_spec _ _ _ _ h
      split at h3
      · rename_i a tl
        split at h3
        · rename_i ci fs hs
          cases hbq : (Nat.beq ci cl && Nat.ble rest.length 8) with
          | false => rw [hbq] at h3; exact False.elim h3
          | true =>
            rw [hbq] at h3
            obtain ⟨d', Φ', g1, g2, g3⟩ := h3
            simp only [Bool.and_eq_true] at hbq
            obtain rfl := Nat.eq_of_beq_eq_true hbq.1
            have e0 : st = (Sum.inr a :: tl).reverse ++ rest := by simpa using h2
            rw [e0]
            exact A_callV (st := []) (nest := false) (ini := false) (mc' := 0) (ms' := 0) (by simpa using hd) ho hc rfl (by simpa using h1) hs (Nat.le_of_ble_eq_true hbq.2) g1 hkm hks g2 (fun r S' M' q1 q2 => hK _ _ _ _ _ (g3 r S' M' q1 q2))
        · exact False.elim h3
      · exact False.elim h3
    · exact False.elim h
  | invokestatic idx =>
    obtain rfl : nx = pc + 3 := by
      rcases hnx with q | q
      · cases q
      · exact q
    dsimp only [stp] at h
    split at h
    · rename_i hc
      split at h
      · rename_i x st'
        cases hbq : (Nat.ble st'.length 8 && Nat.ble 1 d) with
        | false => rw [hbq] at h; exact False.elim h
        | true =>
          rw [hbq] at h
          simp only [Bool.and_eq_true] at hbq
          exact A_abs (by simpa using hd) ho hc h.1 (Nat.le_of_ble_eq_true hbq.2) (Nat.le_of_ble_eq_true hbq.1) hkm hks (hK _ _ _ _ _ h.2)
      · exact False.elim h
    · rename_i hc
      split at h
      · rename_i z x st'
        cases hbq : (Nat.ble st'.length 8 && Nat.ble 1 d) with
        | false => rw [hbq] at h; exact False.elim h
        | true =>
          rw [hbq] at h
          simp only [Bool.and_eq_true] at hbq
          exact A_min (by simpa using hd) ho hc h.1.1 h.1.2 (Nat.le_of_ble_eq_true hbq.2) (Nat.le_of_ble_eq_true hbq.1) hkm hks (hK _ _ _ _ _ h.2)
      · exact False.elim h
    · rename_i hc
      split at h
      · rename_i z x st'
        cases hbq : (Nat.ble st'.length 8 && Nat.ble 1 d) with
        | false => rw [hbq] at h; exact False.elim h
        | true =>
          rw [hbq] at h
          simp only [Bool.and_eq_true] at hbq
          exact A_max (by simpa using hd) ho hc h.1.1 h.1.2 (Nat.le_of_ble_eq_true hbq.2) (Nat.le_of_ble_eq_true hbq.1) hkm hks (hK _ _ _ _ _ h.2)
      · exact False.elim h
    · exact False.elim h
    · split at h
      · rename_i y' np nest ini cl hc
        obtain ⟨as, rest, h1, h2, h3⟩ := popK_spec _ _ _ _ h
        cases hbq : Nat.ble rest.length 8 with
        | false => rw [hbq] at h3; exact False.elim h3
        | true =>
          rw [hbq] at h3
          obtain ⟨d', Φ', g1, g2, g3⟩ := h3
          have e0 : st = as.reverse ++ rest := by simpa using h2
          rw [e0]
          exact A_callS (st := []) (mc' := 0) (ms' := 0) (by simpa using hd) ho hc (by simpa using h1) (Nat.le_of_ble_eq_true hbq) g1 hkm hks g2 (fun r S' M' q1 q2 => hK _ _ _ _ _ (g3 r S' M' q1 q2))
      · exact False.elim h
  | invokespecial idx =>
    obtain rfl : nx = pc + 3 := by
      rcases hnx with q | q
      · cases q
      · exact q
    dsimp only [stp] at h
    cases hbq : (memb (objs o) idx && Nat.ble 1 d) with
    | false => rw [hbq] at h; exact False.elim h
    | true =>
      rw [hbq] at h
      dsimp only [cond_true] at h
      simp only [Bool.and_eq_true] at hbq
      split at h
      · rename_i a st'
        cases hb2 : Nat.ble st'.length 8 with
        | false => rw [hb2] at h; exact False.elim h
        | true =>
          rw [hb2] at h
          exact A_objInit (by simpa using hd) ho hbq.1 (Nat.le_of_ble_eq_true hbq.2) (Nat.le_of_ble_eq_true hb2) (hK _ _ _ _ _ h)
      · exact False.elim h
  | _ => exact False.elim h
theorem wp_sound {d mc ms kc ks y o : Nat} {isI fin : Bool} {rt : Option FieldType} {Φ : Option Vl → Ly → Mm → Prop} {P : List En} {sp : List Nat} (hm : MO y o isI rt P) (hkm : kc ≤ mc) (hks : ks ≤ ms) (hfin : fin = true → kc = mc ∧ ks ≤ ms) : ∀ (n pc : Nat) (L : Lc) (st : List Vl) (S : Ly) (M : Mm), wp d mc ms kc ks y o isI fin rt Φ P sp n pc L st S M → AJ d mc ms y Φ kc ks pc L st S M := by
  intro n
  induction n with
  | zero => intro pc L st S M h; exact h
  | succ n ih =>
    intro pc L st S M h
    unfold wp at h
    split at h
    · exact False.elim h
    · rename_i i nx ax hl
      refine stp_sound hm (lk1_mem hl) hkm hks hfin (fun pc' L' st' S' M' hk => ?_) h
      cases hb : memb sp pc' with
      | true => rw [hb] at hk; exact hk
      | false => rw [hb] at hk; exact ih _ _ _ _ _ hk
theorem aj_wp {d y o : Nat} {isI : Bool} {rt : Option FieldType} {Φ : Option Vl → Ly → Mm → Prop} {P : List En} (hm : MO y o isI rt P) (sp : List Nat) (n : Nat) {pc : Nat} {L : Lc} {st : List Vl} {S : Ly} {M : Mm} (h : MOk M → wp d 0 0 0 0 y o isI true rt Φ P sp n pc L st S M) : AJ d 0 0 y Φ 0 0 pc L st S M := AJ.MOk_ (fun hM => wp_sound hm (Nat.le_refl _) (Nat.le_refl _) (fun _ => ⟨rfl, Nat.le_refl _⟩) n pc L st S M (h hM))
theorem ret_wp {d y o nL : Nat} {isI : Bool} {rt : Option FieldType} {Φ : Option Vl → Ly → Mm → Prop} {P : List En} (hm : MO y o isI rt P) (hy : y < mtb0.length) (hl : ∀ r : MRec, mtb[y]? = some r → r.2.2.1 = nL) (sp : List Nat) (n : Nat) {as : List Vl} (hn : as.length ≤ nL) {S : Ly} {M : Mm} (h : MOk M → wp d 0 0 0 0 y o isI true rt Φ P sp n 0 (as.map some) [] S M) : Ret d 0 0 y as S M Φ :=
  Ret.ofAJ hy (fun r hr => by rw [hl r hr]; exact hn) (fun hM => wp_sound hm (Nat.le_refl _) (Nat.le_refl _) (fun _ => ⟨rfl, Nat.le_refl _⟩) n 0 _ [] S M (h hM))
