/-! THE CLAIM OUT OF ONE WALK OF THE LAW'S BODY. Your part is whole_start (and what it stands on); all else here is the same for every law, but numbers. -/
def R_law : String := "KeyFingersLaw"
def lw_P (b : Addr) (xs : List Int32) (args : Array Value) (s : State) : Prop := args = #[.ref b] ∧ s.IntsAt b xs ∧ xs.length ≤ 3072 ∧ (Jvm.Cond.and given_1 narrow_1).before args s = true
def lw_Q (_ : Array Value) (s : State) (o : Outcome) (t : State) : Prop := o = .returned (some (.int 1)) ∧ Framed s o t [] 600000 7302250
def lw_Z (below : List Frame) (a : Array Value) (s : State) : State → Prop := fun t => ∃ o, t.status = .running ∧ Ended t below o ∧ lw_Q a s o t
/-- the law's own end, with 1 on the stack, nothing written that was there before, its room as the claim has it -/
theorem lw_ret {p : Program} {l : Launch} {e : Env} {s : State} {m : MethodId} {below : List Frame} {meth : Method} {c : Code} {b : Nat} (hx : p.tables.exec = Jvm.exec) (hb : c.code = code) (hr : meth.sig.returnType = ret) (hlocks : meth.locks = false) {pc : Nat} {H : Heap} {ls : Array Slot} (hdg : decode code pc = .ok (.ireturn, 1)) : W p l e room_1 s m #[Value.ref b] below meth c H [] 600000 7302250 (lw_Z below #[Value.ref b] s) (F0 m pc ls [.int 1]) := by
  intro T hT X
  obtain ⟨fs, hret, hrun, hended, hW, hframe⟩ := X.leave (v := some (.int 1)) (hlocks := hlocks) (fun h => by rw [hr] at h; cases h)
  have hmeth' : T.vm.method? m = some meth := X.method'
  refine ⟨T.setFrames fs, ?_, .returned (some (.int 1)), hrun, hended, rfl, ⟨_, rfl⟩, hW, hframe⟩
  jvm_step X.here [X.here.top, hx, hb, hdg, hmeth', hr, ret, narrow_b1]
  (try refine ⟨rfl, ?_⟩); (try refine ⟨rfl, ?_⟩)
  first | (intro acts; rw [hret _ acts rfl rfl rfl]) | rw [hret _ _ rfl rfl rfl]
  exact Steps.refl _
/-- what holds at the law's entry: the machine, the code, the tables' words (any of lw_tbl by 'hts w (by decide +kernel)'), the script of L ints xs at the cell b, what the Statement gives of the start (any of its parts by flat_of_before) -/
def lw_At (p : Program) (s : State) (m : MethodId) (meth : Method) (c : Code) (b L : Nat) (xs : Nat → Int32) : Prop :=
  p.tables.exec = Jvm.exec ∧ c.code = code ∧ meth.sig.returnType = ret ∧ c.maxLocals = 4 ∧ s.vm.findClass R_law = some m.cls ∧ (∀ w ∈ lw_tbl, w.before #[Value.ref b] s = true) ∧ va_X b L xs s s.heap ∧ b < s.heap.size ∧ meth.locks = false ∧ (Jvm.Cond.and given_1 narrow_1).before #[Value.ref b] s = true
/-! ===== from the law's entry ===== -/
theorem eqI {args : Array Value} {s : State} {t : Term} {v : Int32} (h : (Cond.eq t (.int v)).before args s = true) : t.eval args s none [] s = some (.int v) := by
  have e : (Term.int v).eval args s none [] s = some (.int v) := rfl
  cases ht : t.eval args s none [] s with
  | none => simp [Cond.before, Cond.holds, Cond.value, ht, e] at h
  | some w => cases w <;> simp [Cond.before, Cond.holds, Cond.value, ht, e] at h ⊢ <;> assumption
theorem za_of {args : Array Value} {s : State} {nm : String} {n : Nat} {vs : Nat → Int32} {cA : ClassId} (hex : (Cond.exactly (.static "KeyFingers" nm "[I") "[I").before args s = true) (harr : (Cond.arrayOf (.static "KeyFingers" nm "[I") .int).before args s = true) (hlen : (Cond.eq (.length (.static "KeyFingers" nm "[I")) (.int (Int32.ofInt n))).before args s = true) (hn : n < 1000) (hel : ∀ j : Nat, j < n → (Cond.eq (.elem (.static "KeyFingers" nm "[I") (.int (Int32.ofInt j))) (.int (vs j))).before args s = true) (hl : (Cond.laysStatic "KeyFingers" nm "[I").before args s = true) (hini : (Cond.initialized "KeyFingers").before args s = true) (hnm : s.vm.findClass "[I" = some cA) : ZA nm n vs cA s.heap.size s := by
  obtain ⟨a, c, cell, k, e1, e2, e3, e4, e5, e6, -⟩ := Cond.exactly_spec hex
  obtain ⟨i1, i2⟩ := Cond.arrayOf_spec harr e1 e3
  cases hnm.symm.trans e2
  have hat : s.arrayAt? a = some cell := by
    obtain ⟨-, k', hk', comp, hkd⟩ := i1
    simp [State.arrayAt?, e3, hk', i2, e5, hkd]
  have zz := va_Zof hl hini e1 (A := fun q => s.heap.size ≤ q) (fun q hq hq2 => by omega)
  clear hex harr hl hini
  generalize Term.static "KeyFingers" nm "[I" = t at *
  have hsz : cell.slots.size = n := by
    have h := eqI hlen
    simp only [Term.eval, e1, hat, Option.bind_eq_bind, Option.bind_some] at h
    split at h
    · rename_i hlt
      have h2 : cell.slots.size.toInt32 = Int32.ofInt n := by simpa using h
      have h3 := congrArg Int32.toInt h2
      rw [i32_toInt (by constructor <;> omega)] at h3
      have h4 : cell.slots.size.toInt32 = Int32.ofInt (cell.slots.size : Int) := Int32.ofInt_eq_ofNat.symm
      rw [h4, i32_toInt (by constructor <;> omega)] at h3
      omega
    · simp at h
  have hes : ∀ j : Nat, j < n → cell.slots[j]? = some (.int (vs j)) := fun j hj => by
    have h := eqI (hel j hj)
    have hR : R32 (j : Int) := by constructor <;> omega
    have hneg : ¬ Int32.ofInt (j : Int) < 0 := by rw [i32_zero, i32_lt hR (by decide)]; omega
    simp only [Term.eval, e1, hat, Option.bind_eq_bind, Option.bind_some, if_neg hneg, i32_nat hR] at h
    simpa using h
  refine ⟨a, cell, zz, e3, e6, i1.1, i2, ?_, (Array.getElem?_eq_some_iff.mp e3).1⟩
  apply Array.ext_getElem?
  intro i
  show cell.slots[i]? = (arrV cA n (fun j => .int (vs j))).slots[i]?
  by_cases hi : i < n
  · rw [arrV_read _ _ hi]; exact hes i hi
  · rw [Array.getElem?_eq_none (by rw [hsz]; omega), Array.getElem?_eq_none (by rw [arrV_size]; omega)]
theorem frame_wide {s t : State} {L : List Loc} {k n k' n' : Nat} (h : s.sameButNew t L k n) (hf : ∀ q ∈ L, s.heap.size ≤ q.base) (hk : k ≤ k') (hn : n ≤ n') : s.sameButNew t [] k' n' := by
  obtain ⟨h1, h2, h3, h4, h5, h6⟩ := h
  refine ⟨h1, h2, by omega, h4, by omega, fun a c ha => ?_⟩
  obtain ⟨c', g1, g2, g3, g4⟩ := h6 a c ha
  refine ⟨c', g1, g2, g3, fun i _ => g4 i (fun hm => ?_)⟩
  have z1 : s.heap.size ≤ a := hf _ hm
  have z2 : a < s.heap.size := (Array.getElem?_eq_some_iff.mp ha).1
  exact absurd z2 (Nat.not_lt.mpr z1)
set_option maxRecDepth 100000 in
theorem nst_0 : Cond.methodLinkNest "KeyFingers" 9 ⟨"KeyFingers$Rules", "<init>", "()V"⟩ "KeyFingers" ∈ lw_tbl := tb_1 (List.mem_of_getElem? (i := 19) rfl)
set_option maxRecDepth 100000 in
theorem nst_1 : Cond.methodLinkNest "KeyFingers" 39 ⟨"KeyFingers$Phrases", "<init>", "()V"⟩ "KeyFingers" ∈ lw_tbl := tb_1 (List.mem_of_getElem? (i := 115) rfl)
set_option maxRecDepth 100000 in
theorem nst_2 : Cond.methodLinkNest "KeyFingers$Hand" 31 ⟨"KeyFingers", "at", "([II)I"⟩ "KeyFingers" ∈ lw_tbl := tb_1 (List.mem_of_getElem? (i := 172) rfl)
set_option maxRecDepth 100000 in
theorem nst_3 : Cond.methodLinkNest "KeyFingers$Hand" 35 ⟨"KeyFingers", "store", "([III)V"⟩ "KeyFingers" ∈ lw_tbl := tb_1 (List.mem_of_getElem? (i := 180) rfl)
set_option maxRecDepth 100000 in
theorem nst_4 : Cond.methodLinkNest "KeyFingers$Rules" 33 ⟨"KeyFingers", "store", "([III)V"⟩ "KeyFingers" ∈ lw_tbl := tb_1 (List.mem_of_getElem? (i := 213) rfl)
set_option maxRecDepth 100000 in
theorem nst_5 : Cond.methodLinkNest "KeyFingers$Rules" 29 ⟨"KeyFingers", "at", "([II)I"⟩ "KeyFingers" ∈ lw_tbl := tb_1 (List.mem_of_getElem? (i := 225) rfl)
set_option maxRecDepth 100000 in
theorem nst_6 : Cond.methodLinkNest "KeyFingers$Rules" 41 ⟨"KeyFingers", "isBlack", "(I)Z"⟩ "KeyFingers" ∈ lw_tbl := tb_2 (List.mem_of_getElem? (i := 45) rfl)
set_option maxRecDepth 100000 in
theorem nst_7 : Cond.methodLinkNest "KeyFingers$Rows" 73 ⟨"KeyFingers", "store", "([III)V"⟩ "KeyFingers" ∈ lw_tbl := tb_2 (List.mem_of_getElem? (i := 104) rfl)
set_option maxRecDepth 100000 in
theorem nst_8 : Cond.methodLinkNest "KeyFingers$Rows" 69 ⟨"KeyFingers", "at", "([II)I"⟩ "KeyFingers" ∈ lw_tbl := tb_2 (List.mem_of_getElem? (i := 119) rfl)
set_option maxRecDepth 100000 in
theorem nst_9 : Cond.methodLinkNest "KeyFingers$Phrases" 28 ⟨"KeyFingers", "at", "([II)I"⟩ "KeyFingers" ∈ lw_tbl := tb_2 (List.mem_of_getElem? (i := 203) rfl)
set_option maxRecDepth 100000 in
theorem nst_10 : Cond.methodLinkNest "KeyFingers$Phrases" 40 ⟨"KeyFingers", "store", "([III)V"⟩ "KeyFingers" ∈ lw_tbl := tb_2 (List.mem_of_getElem? (i := 208) rfl)
set_option maxRecDepth 100000 in
theorem nst_11 : Cond.methodLinkNest "KeyFingers$Hand" 64 ⟨"KeyFingers", "isBlack", "(I)Z"⟩ "KeyFingers" ∈ lw_tbl := tb_3 (List.mem_of_getElem? (i := 24) rfl)
theorem nst_all {args : Array Value} {s : State} (hts : ∀ w ∈ lw_tbl, w.before args s = true) : ∀ q ∈ nests, va_Nw (.methodLinkNest q.1 q.2.1 q.2.2.1 q.2.2.2) s := by
  intro q hq
  simp only [nests, List.mem_cons, List.not_mem_nil, or_false] at hq
  rcases hq with rfl | rfl | rfl | rfl | rfl | rfl | rfl | rfl | rfl | rfl | rfl | rfl
  · exact va_Nw.of rfl (hts _ nst_0)
  · exact va_Nw.of rfl (hts _ nst_1)
  · exact va_Nw.of rfl (hts _ nst_2)
  · exact va_Nw.of rfl (hts _ nst_3)
  · exact va_Nw.of rfl (hts _ nst_4)
  · exact va_Nw.of rfl (hts _ nst_5)
  · exact va_Nw.of rfl (hts _ nst_6)
  · exact va_Nw.of rfl (hts _ nst_7)
  · exact va_Nw.of rfl (hts _ nst_8)
  · exact va_Nw.of rfl (hts _ nst_9)
  · exact va_Nw.of rfl (hts _ nst_10)
  · exact va_Nw.of rfl (hts _ nst_11)
set_option maxRecDepth 100000 in
theorem fln9 : Cond.fieldLinkNest "KeyFingers$Rules" 9 "KeyFingers" "FIRST_PRICES" "[I" "KeyFingers" ∈ lw_tbl := tb_1 (List.mem_of_getElem? (i := 23) rfl)
set_option maxRecDepth 100000 in
theorem fln23 : Cond.fieldLinkNest "KeyFingers$Rules" 23 "KeyFingers" "FIRST_REACHES" "[I" "KeyFingers" ∈ lw_tbl := tb_1 (List.mem_of_getElem? (i := 32) rfl)
set_option maxRecDepth 100000 in
theorem cst1 : Cond.castable "[I" "java/lang/Cloneable" ∈ lw_tbl := tb_1 (List.mem_of_getElem? (i := 30) rfl)
set_option maxRecDepth 100000 in
theorem lst1 : Cond.laysStatic "KeyFingers" "FIRST_PRICES" "[I" ∈ lw_tbl := tb_1 (List.mem_of_getElem? (i := 24) rfl)
set_option maxRecDepth 100000 in
theorem lst2 : Cond.laysStatic "KeyFingers" "FIRST_REACHES" "[I" ∈ lw_tbl := tb_1 (List.mem_of_getElem? (i := 33) rfl)
set_option maxRecDepth 100000 in
theorem ini1 : Cond.initialized "KeyFingers" ∈ lw_tbl := tb_1 (List.mem_of_getElem? (i := 1) rfl)
theorem mw_tbl {args : Array Value} {s : State} (hts : ∀ w ∈ lw_tbl, w.before args s = true) : ∀ w ∈ MW, w.before args s = true := fun w hw => hts w (MW_in w hw).1
theorem news_of : ∀ ci : Nat, ∀ q : vw_C, vwCl[ci]? = some q → ∃ (o idx n : Nat), o < nCl ∧ (idx, ci) ∈ news o ∧ Cond.instantiable q.1 n ∈ wN o (idx, ci) := by
  intro ci q hq
  match ci, hq with
  | 0, hq => cases hq; exact ⟨4, 16, _, by decide, by decide, List.mem_cons_of_mem _ List.mem_cons_self⟩
  | 1, hq => cases hq; exact ⟨4, 37, _, by decide, by decide, List.mem_cons_of_mem _ List.mem_cons_self⟩
  | 2, hq => cases hq; exact ⟨4, 28, _, by decide, by decide, List.mem_cons_of_mem _ List.mem_cons_self⟩
  | 3, hq => cases hq; exact ⟨4, 7, _, by decide, by decide, List.mem_cons_of_mem _ List.mem_cons_self⟩
  | 4, hq => cases hq; exact ⟨8, 7, _, by decide, by decide, List.mem_cons_of_mem _ List.mem_cons_self⟩
  | 5, hq => cases hq; exact ⟨8, 10, _, by decide, by decide, List.mem_cons_of_mem _ List.mem_cons_self⟩
  | n + 6, hq => cases hq
theorem known_all {args : Array Value} {s : State} (h : ∀ w ∈ MW, w.before args s = true) : ∃ (dC : Nat → ClassId) (dI : Nat → Nat → Nat), ∀ (c : Nat) (q : vw_C), vwCl[c]? = some q → u_Kn s q.1 q.2.1 q.2.2 (dC c) (dI c) := by
  have h1 : ∀ c : Nat, ∃ z : ClassId × (Nat → Nat), ∀ q : vw_C, vwCl[c]? = some q → u_Kn s q.1 q.2.1 q.2.2 z.1 z.2 := by
    intro c
    cases hc : vwCl[c]? with
    | none => exact ⟨(0, fun _ => 0), fun q hq => by cases hq⟩
    | some q =>
      obtain ⟨o, idx, n, a1, a2, a3⟩ := news_of c q hc
      obtain ⟨cC, iS, k⟩ := u_known (C := q.1) (T := q.2.1) (N := q.2.2) h (cls_in hc) (h _ (MW_N a1 a2 _ a3))
      exact ⟨(cC, iS), fun q' hq' => by cases hq'; exact k⟩
  obtain ⟨f, hf⟩ := Classical.axiomOfChoice h1
  exact ⟨fun c => (f c).1, fun c => (f c).2, hf⟩
theorem whole_start {p : Program} {e : Env} {s : State} {m : MethodId} {below : List Frame} {meth : Method} {c : Code} (l : Launch) (hflags : l.flags = flags0) {b L : Nat} {xs : Nat → Int32} (hL : L ≤ 3072) (C0 : lw_At p s m meth c b L xs) : W p l e room_1 s m #[Value.ref b] below meth c s.heap [] 0 0 (lw_Z below #[Value.ref b] s) (entryFrame m ([Value.ref b] : List Value).toArray 4) := by
  obtain ⟨hx, hb, hr, hml, hown, hts, hX, hbl, hlk, hgn⟩ := C0
  have hmw := mw_tbl hts
  have hs := flat_of_before _ hgn
  obtain ⟨dC, dI, hK⟩ := known_all hmw
  obtain ⟨cA, kA, comp, a1, a2, a3⟩ := Cond.arrayClass_spec (hmw _ (MW_X (List.mem_cons_of_mem _ (List.mem_cons_of_mem _ List.mem_cons_self))))
  have hRA : va_RA s cA .int := a1
  have hnI := va_nm_int hRA
  have hvK : va_K (dC, dI) vwCl [(cA, .int)] s := ⟨hK, fun k q hq => by
    have hk : k = 0 := by
      have := (List.getElem?_eq_some_iff.mp hq).1
      simp at this
      exact this
    subst hk
    cases hq
    exact ⟨fun n z => ⟨fun k h => (by cases h), kA, a2, comp, a3⟩, hRA⟩⟩
  have z1 : ZA "FIRST_PRICES" 7 fPr cA s.heap.size s := za_of (hs _ (by decide +kernel)) (hs _ (by decide +kernel)) (hs _ (by decide +kernel)) (by decide) (fun j hj => hs _ ((show ∀ j : Nat, j < 7 → (Cond.eq (.elem (.static "KeyFingers" "FIRST_PRICES" "[I") (.int (Int32.ofInt j))) (.int (fPr j))) ∈ flatC (Jvm.Cond.and given_1 narrow_1) by decide +kernel) j hj)) (hts _ lst1) (hts _ ini1) hnI
  have z2 : ZA "FIRST_REACHES" 30 fRe cA s.heap.size s := za_of (hs _ (by decide +kernel)) (hs _ (by decide +kernel)) (hs _ (by decide +kernel)) (by decide) (fun j hj => hs _ ((show ∀ j : Nat, j < 30 → (Cond.eq (.elem (.static "KeyFingers" "FIRST_REACHES" "[I") (.int (Int32.ofInt j))) (.int (fRe j))) ∈ flatC (Jvm.Cond.and given_1 narrow_1) by decide +kernel) j hj)) (hts _ lst2) (hts _ ini1) hnI
  have hSF : SF dC dI cA s.heap.size b L xs s := ⟨hvK, nst_all hts, hX, hbl, Nat.le_refl _, by omega, z1, z2, va_Nw.of rfl (hts _ fln9), va_Nw.of rfl (hts _ fln23), va_Nw.of rfl (hts _ cst1)⟩
  have hW : WD dC dI cA s.heap.size b L xs [.inl L] (fun k j => if k = 0 then (xs j.toNat).toInt else 0) s.heap := by
    refine ⟨[], rfl, fun k j => ?_, fun j hj => ?_, fun k q hq => by cases hq⟩
    · dsimp only
      split
      · exact R32_toInt _
      · decide
    · simp
  have hl := lv_entry ([.inr 0].map (val s.heap.size b)) (n := 4) (by rw [lg_len]; decide)
  rw [show ([Value.ref b] : List Value) = ([.inr 0].map (val s.heap.size b)) from rfl, lg_entry_eq]
  generalize (lg_sl ([.inr 0].map (val s.heap.size b)) ++ List.replicate (4 - (lg_sl ([.inr 0].map (val s.heap.size b))).length) Slot.unset).toArray = ls at hl ⊢
  have A := lw_0 (N := L) (M := fun k j => if k = 0 then (xs j.toNat).toInt else 0) (Φ := fun r _ _ => r = some (.inl 1)) (by omega) (fun _ => rfl) rL_law rfl l dC dI cA s.heap.size b L xs p e s m #[Value.ref b] below meth c s.heap [] ls ⟨hx, hb, hr, hml, hown, hmw, hlk, fun h => absurd h (by decide), hSF⟩ hW va_S.rf rfl ⟨hl.1, hl.2.1, fun i v hi => by
    have h1 := args_LV s.heap.size b [.inr 0] 0 i v hi
    rw [Nat.zero_add] at h1
    exact hl.2.2 _ h1⟩
  intro T hT X
  have hroom : s.hasRoom e.platform (rmm 13 46 2189) = true := by
    have h := X.room
    simp only [State.hasRoom, Bool.and_eq_true, decide_eq_true_eq] at h ⊢
    obtain ⟨⟨⟨⟨g5, g1, g2, g3, g4, gb⟩, gc⟩, gs⟩, g0⟩ := h
    have q1 : room_1.frames = 15 := rfl
    have q2 : room_1.locals = 594 := rfl
    have q3 : room_1.cells = 600000 := rfl
    have q4 : room_1.slots = 7302250 := rfl
    have r1 : (rmm 13 46 2189).frames = 13 := rfl
    have r2 : (rmm 13 46 2189).locals = 520 := rfl
    have r3 : (rmm 13 46 2189).cells = 46 := rfl
    have r4 : (rmm 13 46 2189).slots = 2189 := rfl
    rw [q1] at g1 g2
    rw [q2] at g5 g3 g4
    rw [q3] at gc
    rw [q4] at gs
    exact ⟨⟨⟨⟨by omega, by omega, by omega, by omega, by omega, gb⟩, by omega⟩, by omega⟩, g0⟩
  obtain ⟨t, st, o, h1, h2, ⟨⟨r, S', M', ho, hr', _, _⟩, _⟩, Lc, hF, hfree⟩ := A T hT { X with room := hroom }
  refine ⟨t, st, o, h1, h2, ?_, hF.1, hF.2.1, frame_wide hF.2.2 hfree (by decide) (by decide)⟩
  rw [ho, hr']
  rfl
set_option maxHeartbeats 4000000 in
theorem lw_walk (l : Launch) (hflags : l.flags = flags0) (b : Addr) (xs : List Int32) : MetFree l x (headSpec (Jvm.Cond.code x code maxLocals ret :: tables_1) room_1) (lw_P b xs) (fun _ _ _ _ _ => True) lw_Q := by
  refine MetFree.of_bodyS (code := code) (maxLocals := maxLocals) (ret := ret) (by decide) ?_ ?_
  · intro args s m h hn
    obtain ⟨meth, c, h1, h2, h3, h4, h5, h6, -, -⟩ := Cond.code_spec hn (atoms_spec (ws := Jvm.Cond.code x code maxLocals ret :: tables_1) h _ List.mem_cons_self)
    exact ⟨meth, c, h1, h2, h3, h4, h5, h6⟩
  · intro p e s m args below meth c s₁ B hml0 hP _
    obtain ⟨rfl, hx, hbd, hgv⟩ := hP
    obtain ⟨scr, harrAt, hlist, hof, hsmall⟩ := hx
    obtain ⟨hcb, hkn, -, -⟩ := State.arrayAt?_spec harrAt
    have hown : s.vm.findClass R_law = some m.cls := findClass_of_methodNamed B.named
    have hts0 : ∀ c ∈ (Jvm.Cond.code x code maxLocals ret :: tables_1), c.before #[Value.ref b] s = true := atoms_spec (ws := Jvm.Cond.code x code maxLocals ret :: tables_1) B.pre
    have hts : ∀ w ∈ lw_tbl, w.before #[Value.ref b] s = true := k2_hts_sels lw_privs (fun w hw => hts0 w (List.mem_cons_of_mem _ hw)) lw_privs_ok
    have hml : c.maxLocals = 4 := B.maxLocals_eq (hts0 _ List.mem_cons_self)
    have X₀ : Stand p l e room_1 s m #[Value.ref b] below meth c s₁ [] 0 0 := Stand.of_body B
    have hh0 : s₁.heap = s.heap := by rw [B.state]; rfl
    have hsz : scr.slots.size = xs.length := by rw [← Array.length_toList, hlist, List.length_map]
    have hval : ∀ j : Nat, j < xs.length → scr.slots[j]? = some (.int (xs.getD j 0)) := fun j hj => by
      rw [← Array.getElem?_toList, hlist]
      simp [hj]
    have hbl : b < s.heap.size := (Array.getElem?_eq_some_iff.mp hcb).1
    have hX : va_X b xs.length (fun j => xs.getD j 0) s s.heap := ⟨scr, hcb, hof, hkn, hsz, hval⟩
    have K : W p l e room_1 s m #[Value.ref b] below meth c s₁.heap [] 0 0 (lw_Z below #[Value.ref b] s) (entryFrame m ([Value.ref b] : List Value).toArray 4) := by
      rw [hh0]
      exact whole_start l hflags hbd ⟨B.exec, B.bytes, B.returns, hml, hown, hts, hX, hbl, B.notSynchronized, hgv⟩
    obtain ⟨t, a1, o, b1, b2, b3⟩ := K s₁ rfl X₀
    exact ⟨t, o, a1, b1, b2, b3⟩
theorem lw_pre_spec {args : Array Value} {s : State} (h : (Jvm.Cond.and given_1 narrow_1).before args s = true) (hr : rest_1_c.before args s = true) : ∃ (b : Addr) (xs : List Int32), lw_P b xs args s := by
  have hs := flat_of_before _ h
  have hq := flat_of_before _ hr
  have hc : (Cond.count 1).before args s = true := hs _ (by decide +kernel)
  have harr : (Cond.arrayOf (.arg 0) .int).before args s = true := hs _ (by decide +kernel)
  have hle : (Cond.le (.length (.arg 0)) (.int 3072)).before args s = true := hs _ (by decide +kernel)
  have hlen : (Cond.isInt (.length (.arg 0))).before args s = true := hq _ (by decide +kernel)
  have hall : (Cond.all (.arg 0) (.isInt (.elem (.arg 0) (.index 0)))).before args s = true := hq _ (by decide +kernel)
  obtain ⟨b, xs, hb, hx⟩ := State.ints_of_pre rfl harr hlen hall
  have hsm : xs.length < 2 ^ 31 := hx.choose_spec.2.2.2
  have hev : (Term.length (.arg 0)).eval args s none [] s = some (.int xs.length.toInt32) := hx.length_eval hb
  have hv := Cond.le_ints hev (show (Term.int 3072).eval args s none [] s = some (.int 3072) from rfl)
  have hd : xs.length.toInt32 ≤ 3072 := by
    simpa [Cond.before, Cond.holds, hv] using hle
  have hN : xs.length ≤ 3072 := (Int32.ofNat_le_ofNat hsm (by decide)).mp (show Int32.ofNat xs.length ≤ Int32.ofNat 3072 from hd)
  exact ⟨b, xs, Cond.one_arg hc (show args[0]? = some (.ref b) from hb), hx, hN, h⟩
theorem lw_comes (l : Launch) (hflags : l.flags = flags0) : Comes l x (Jvm.Cond.code x code maxLocals ret :: tables_1) room_1 (fun tb e args s => Calls_1 tb e args s ∧ rest_1 tb e args s ∧ Pre_1 tb e args s)
    (fun _ _ args s o t => lw_Q args s o t) := by
  intro p e ha hc hk s m args below hf hfit hheap happ hpre
  obtain ⟨b, xs, hP⟩ := lw_pre_spec hpre.2.2 hpre.2.1
  obtain ⟨k, o, h1, h2, h3, hQ⟩ := lw_walk l hflags b xs p e ha hc hk s m args below hf ((Spec.applies_iff_loose hf).mp happ).1 hP trivial
  exact ⟨k, o, h1, h2, h3, hQ⟩
theorem lw_frame {s t : State} {o : Outcome} {args : Array Value} (h : Framed s o t [] 600000 7302250) :
    Framed s o t (fieldLocs frame_1_writes args s ++ arrayLocs frame_1_arrays args s ++ staticLocs frame_1_statics s) 600000 7302250 := h
theorem lw_limb (L : Cond) (hL : ∀ (args : Array Value) (s t : State), L.after args s (.returned (some (.int 1))) t = true) :
    ArmFor flags0 classFile x code maxLocals ret World_1 tables_1 room_1 Calls_1 rest_1 Pre_1
      (fun tb e a s o t => postC L tb e a s o t ∧ Framed s o t (fieldLocs frame_1_writes a s ++ arrayLocs frame_1_arrays a s ++ staticLocs frame_1_statics s) 600000 7302250) := by
  intro l hflags _ _ p e ha hc hk s m args below hf hfit hheap happ hpre
  obtain ⟨k, o, h1, h2, h3, rfl, hF⟩ := lw_comes l hflags p e ha hc hk s m args below hf hfit hheap happ hpre
  exact ⟨k, _, h1, h2, h3, hL args s _, lw_frame hF⟩
theorem i_vc : Claimed_1_1 ∧ Claimed_1_2 := ⟨lw_limb limb_1_1 (fun args s t => by simp [limb_1_1, Cond.after, Cond.holds, Cond.value]), lw_limb limb_1_2 (fun args s t => Cond.after_iff.mpr (by
  first | (rw [show limb_1_2 = Cond.eq .result (.int 1) from rfl, Cond.eq_ints (x := 1) (y := 1) rfl rfl]; simp; done) | (simp [limb_1_2, Cond.value, Term.eval]; done)))⟩
