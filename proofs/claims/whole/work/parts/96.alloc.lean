/-! ===== constructors: rows for them ===== -/
theorem sg {d mc ms kc ks y o : Nat} {isI : Bool} {rt : Option FieldType} {Φ : Option Vl → Ly → Mm → Prop} {P : List En} (hm : MO y o isI rt P) (h1 : kc ≤ mc) (h2 : ks ≤ ms) (sp : List Nat) (n : Nat) {pc : Nat} {L : Lc} {st : List Vl} {S : Ly} {M : Mm} (h : MOk M → wp d mc ms kc ks y o isI false rt Φ P sp n pc L st S M) : AJ d mc ms y Φ kc ks pc L st S M := AJ.MOk_ (fun hM => wp_sound hm h1 h2 (fun q => by cases q) n pc L st S M (h hM))
theorem sgE {d mc ms kc ks y o : Nat} {isI : Bool} {rt : Option FieldType} {Φ : Option Vl → Ly → Mm → Prop} {P : List En} (hm : MO y o isI rt P) (h1 : kc = mc) (h2 : ks ≤ ms) (sp : List Nat) (n : Nat) {pc : Nat} {L : Lc} {st : List Vl} {S : Ly} {M : Mm} (h : MOk M → wp d mc ms kc ks y o isI true rt Φ P sp n pc L st S M) : AJ d mc ms y Φ kc ks pc L st S M := AJ.MOk_ (fun hM => wp_sound hm (Nat.le_of_eq h1) h2 (fun _ => ⟨h1, h2⟩) n pc L st S M (h hM))
theorem dce {y o pc nx : Nat} {isI : Bool} {rt : Option FieldType} {P : List En} (hm : MO y o isI rt P) {i : Instr} {ax : List (Int × Nat)} (h : lk1 pc P = some (i, nx, ax)) : DC y pc i (nx - pc) := (mo_entry hm (lk1_mem h)).1
theorem oce {y o pc nx : Nat} {isI : Bool} {rt : Option FieldType} {P : List En} (hm : MO y o isI rt P) {i : Instr} {ax : List (Int × Nat)} (h : lk1 pc P = some (i, nx, ax)) : OC y o := (mo_entry hm (lk1_mem h)).2.1
/-- a row of given numbers -/
def mvs (M : Mm) (a : Nat) (vs : Nat → Int32) : Mm := fun k j => if k = a then (vs j.toNat).toInt else M k j
theorem ent_v {b0 b : Nat} {cA : ClassId} {M : Mm} {a k : Nat} {vs : Nat → Int32} (h : k ≠ a) (sh : Sh) : ent b0 b cA (mvs M a vs) k sh = ent b0 b cA M k sh := by
  cases sh with
  | inl n => simp [ent, mvs, h]
  | inr q =>
    have : (fun (j : Nat) (f : Fk) => fv b0 b (mvs M a vs) k j f) = fun j f => fv b0 b M k j f := by
      funext j f
      cases f <;> simp [fv, mvs, h]
    simp [ent, this]
theorem wl_pushV {b0 b : Nat} {cA : ClassId} {T : Ly} {M : Mm} {sh : Sh} {vs : Nat → Int32} : wl b0 b cA (T ++ [sh]) (mvs M (T.length + 1) vs) = wl b0 b cA T M ++ [(b0 + T.length, ent b0 b cA (mvs M (T.length + 1) vs) (T.length + 1) sh)] := by
  apply List.ext_getElem?
  intro k
  rw [wl_get]
  by_cases hk : k < T.length
  · rw [List.getElem?_append_left hk, List.getElem?_append_left (by simpa [wl] using hk), wl_get]
    cases T[k]? with
    | none => rfl
    | some s2 => simp only [Option.map_some]; rw [ent_v (by omega)]
  · rw [List.getElem?_append_right (by omega), List.getElem?_append_right (by simp [wl]; omega)]
    have hl : (wl b0 b cA T M).length = T.length := by simp [wl]
    rw [hl]
    by_cases h0 : k - T.length = 0
    · rw [h0]
      have : k = T.length := by omega
      subst this
      rfl
    · have : ∃ j, k - T.length = j + 1 := ⟨k - T.length - 1, by omega⟩
      obtain ⟨j, hj⟩ := this
      rw [hj]; rfl
theorem WD.pushV {dC : Nat → ClassId} {dI : Nat → Nat → Nat} {cA : ClassId} {b0 b N : Nat} {xs : Nat → Int32} {T : Ly} {M : Mm} {H H1 : Heap} {sh : Sh} {vs : Nat → Int32} (h : WD dC dI cA b0 b N xs (.inl N :: T) M H) (hP : va_P (dC, dI) vwCl (wl b0 b cA T M ++ [(b0 + T.length, ent b0 b cA (mvs M (T.length + 1) vs) (T.length + 1) sh)]) H1) : WD dC dI cA b0 b N xs (.inl N :: T ++ [sh]) (mvs M (T.length + 1) vs) H1 := by
  obtain ⟨T', e1, h3, h4, h5⟩ := h
  cases e1
  refine ⟨T ++ [sh], rfl, fun k j => ?_, fun j hj => ?_, by rw [wl_pushV]; exact hP⟩
  · unfold mvs; split
    · exact R32_toInt _
    · exact h3 k j
  · rw [← h4 j hj]; simp [mvs]
section Wcl
variable {p : Program} {l : Launch} {e : Env} {R : Room} {s : State} {m : MethodId} {args : Array Value} {below : List Frame} {meth : Method} {c : Code} {H : Heap} {locs : List Loc} {cells slots : Nat} {Q : State → Prop} {cc : ByteArray} {pc : Nat} {ls : Array Slot} {rest : List Value} {D : va_G} {cl : List vw_C} {a : Nat} {tys : List (ClassId × FieldType)}
theorem W_clone (hexec : p.tables.exec = Jvm.exec) (hb : c.code = cc) (hml : c.maxLocals = ls.size) {own ad : String} {index : Nat} (hown : s.vm.findClass own = some m.cls)
    (hlink : (Cond.methodLink own index ⟨ad, "clone", "()Ljava/lang/Object;"⟩).before args s = true) (hsame : (Cond.sameMethod ad "java/lang/Object" "clone" "()Ljava/lang/Object;").before args s = true)
    (hnat : (Cond.native ⟨"java/lang/Object", "clone", "()Ljava/lang/Object;"⟩).before args s = true) (hinst : (Cond.instanceMethod ⟨"java/lang/Object", "clone", "()Ljava/lang/Object;"⟩).before args s = true)
    (hsel : (Cond.selects ad ⟨ad, "clone", "()Ljava/lang/Object;"⟩ ⟨"java/lang/Object", "clone", "()Ljava/lang/Object;"⟩).before args s = true) (hcl : va_Nw (.castable ad "java/lang/Cloneable") s)
    (hK : va_K D cl tys s) (t0 : Nat) {cA : ClassId} {ty : FieldType} (ht : tys[t0]? = some (cA, ty)) {cell : Cell} (hcell : H[a]? = some cell) (hst : ∀ k, cell.vm ≠ .statics k) (hun : cell.vm ≠ .unknown) (hcls : cell.cls = cA)
    (hnm : s.vm.findClass ad = some cA) (hfit : ∀ (i : Nat) (v : Value), cell.slots[i]? = some v → fits ty v = true)
    (hframes : 1 ≤ R.frames) (hlocals : (rest.map fun v => v.category).sum + 14 ≤ R.locals) (hcells : cells + 1 ≤ R.cells) (hslots : slots + cell.slots.size ≤ R.slots) (hdg : decode cc pc = .ok (.invokevirtual index, 3))
    (kk : W p l e R s m args below meth c (H.push { cls := cell.cls, slots := cell.slots }) locs (cells + 1) (slots + cell.slots.size) Q (F0 m (pc + 3) ls (.ref H.size :: rest))) : W p l e R s m args below meth c H locs cells slots Q (F0 m pc ls (.ref a :: rest)) := by
  obtain ⟨c0, t0', f1, f2, f3⟩ := Cond.castable_spec (va_Nw.use (A := args) rfl hcl)
  cases hnm.symm.trans f1
  intro T hT X
  have hcellT : T.heap[a]? = some cell := by rw [hT]; exact hcell
  obtain ⟨-, kA, hkA, comp, hkind⟩ := State.isArrayOf_alike X.warmed.alike ((hK.2 t0 _ ht).1 0 (fun _ => .null))
  obtain ⟨-, kS, hkS, compS, hkindS⟩ := (hK.2 t0 _ ht).1 0 (fun _ => .null)
  obtain ⟨vm', X', st⟩ := X.cloneArray hexec hown hlink hsame hnat hinst hsel (a := a) (cell := cell) hcellT hst hun (by rw [hcls]; exact hnm) f2 (by rw [hcls]; exact f3)
    (fun i v hv => by
      rw [hcls]
      have hk' : T.vm.classes[cA]? = some kA := hkA
      simpa [State.fitsSlot, State.slotType?, hk', hkind] using hfit i v hv)
    (g := F0 m pc ls (.ref a :: rest)) rfl (by rw [hml]) rfl (by rw [hb]; exact hdg) hframes (by show 2 * 0 + _ + 14 ≤ _; omega) hcells hslots (hloader := by rw [hcls]; exact Vm.clonesLoader_of_array hkS hkindS)
  obtain ⟨t, b1, b2⟩ := kk ((T.setVm vm').pushCell { cls := cell.cls, slots := cell.slots }) (by rw [← hT]; rfl) X'
  refine ⟨t, st t ?_, b2⟩
  rw [hT]
  exact b1
end Wcl
theorem A_static {d mc ms y : Nat} {Φ : Option Vl → Ly → Mm → Prop} {kc ks pc : Nat} {L : Lc} {st : List Vl} {S : Ly} {M : Mm} {nm : String} {n idx : Nat} {vs : Nat → Int32} (hZ : ∀ (cA : ClassId) (b0 : Nat) (U : State), ZF cA b0 U → ZA nm n vs cA b0 U ∧ va_Nw (.fieldLinkNest "KeyFingers$Rules" idx "KeyFingers" nm "[I" "KeyFingers") U)
    (ho : OC y 3) (h1 : DC y pc (.getstatic idx) 3) (h2 : DC y (pc + 3) (.invokevirtual 13) 3) (h3 : DC y (pc + 6) (.checkcast 14) 3) (hl : st.length ≤ 8) (hd1 : 1 ≤ d) (hk1 : kc + 1 ≤ mc) (hk2 : ks + n ≤ ms)
    (k : AJ d mc ms y Φ (kc + 1) (ks + n) (pc + 9) L (.inr S.length :: st) (S ++ [.inl n]) (mvs M S.length vs)) : AJ d mc ms y Φ kc ks pc L st S M := by
  intro r hr l dC dI cA b0 b N xs p e s m args below meth c H locs ls C hW hS hz hL
  obtain ⟨hx, hb, hrt, hml, hown, hts, hlk, hnm, hSF⟩ := id C
  obtain ⟨T, rfl, h3', h4, hP⟩ := id hW
  obtain ⟨g1, g2, g3, g4, g5, g6, g7⟩ := id hSF
  obtain ⟨⟨a, cell, z1, z2, z3, z4, z5, z6, z7⟩, zl⟩ := hZ cA b0 s g7
  have own : s.vm.findClass "KeyFingers$Rules" = some m.cls := own_of ho hr hown
  have hnI : s.vm.findClass "[I" = some cA := va_nm_int (g1.2 0 _ rfl).2
  have hX : ∀ w, w ∈ ([.methodLink "KeyFingers$Rules" 13 ⟨"[I", "clone", "()Ljava/lang/Object;"⟩, .sameMethod "[I" "java/lang/Object" "clone" "()Ljava/lang/Object;", .native ⟨"java/lang/Object", "clone", "()Ljava/lang/Object;"⟩, .instanceMethod ⟨"java/lang/Object", "clone", "()Ljava/lang/Object;"⟩, .selects "[I" ⟨"[I", "clone", "()Ljava/lang/Object;"⟩ ⟨"java/lang/Object", "clone", "()Ljava/lang/Object;"⟩, .classLink "KeyFingers$Rules" 14 "[I"] : List Cond) → w.before args s = true := fun w hw => hts _ (MW_X (List.mem_cons_of_mem _ (List.mem_cons_of_mem _ (List.mem_cons_of_mem _ hw))))
  refine va_getsN hx hb z1 hS own (va_Nw.use rfl zl) (fun _ h9 => h9) (h1 r hr) ?_
  have hHa : H[a]? = some cell := by rw [hS.2.1 a (Nat.lt_of_lt_of_le z7 g5) (Nat.not_le.mpr z7)]; exact z2
  have hss : cell.slots.size = n := by rw [z6]; exact arrV_size _ _ _
  have hce : ({ cls := cell.cls, slots := cell.slots } : Cell) = vp_cell cA (n, .inl vs) := by rw [z3, z6]; rfl
  intro T0 hT0 X0
  have hsz : H.size = b0 + T.length := by
    have q1 := stand_size X0
    have q2 := hW.size (Nat.le_trans g5 hS.1)
    rw [hT0] at q1
    simp only [List.length_cons] at hz q2
    omega
  refine (?_ : W p l e (rmm d mc ms) s m args below meth c H locs kc ks (MQ below (QQ mc dC dI cA b0 b N xs Φ) args s mc ms (fun q => b0 ≤ q)) (F0 m (pc + 3) ls (.ref a :: st.map (val b0 b)))) T0 hT0 X0
  refine W_clone hx hb (hml.trans hL.1.symm) own (hX _ List.mem_cons_self) (hX _ (List.mem_cons_of_mem _ List.mem_cons_self)) (hX _ (List.mem_cons_of_mem _ (List.mem_cons_of_mem _ List.mem_cons_self))) (hX _ (List.mem_cons_of_mem _ (List.mem_cons_of_mem _ (List.mem_cons_of_mem _ List.mem_cons_self)))) (hX _ (List.mem_cons_of_mem _ (List.mem_cons_of_mem _ (List.mem_cons_of_mem _ (List.mem_cons_of_mem _ List.mem_cons_self))))) g7.2.2.2.2 g1 0 rfl hHa z4 z5 z3 hnI (fun i v hv => by rw [z6] at hv; exact va_fit (ty := .int) (F := fun j => .int (vs j)) (fun _ _ => rfl) i v hv) hd1 (by rw [cat_sum b0 b st]; show st.length + 14 ≤ 40 * d; omega) hk1 (by rw [hss]; exact hk2) (h2 r hr) ?_
  rw [hce, hss]
  generalize hH1 : H.push (vp_cell cA (n, .inl vs)) = H1
  have y1 : H1.size = H.size + 1 := by rw [← hH1, Array.size_push]
  have e1 : H1[H.size]? = some (vp_cell cA (n, .inl vs)) := by rw [← hH1, Array.getElem?_push_size]
  have o1 : ∀ q : Nat, q < H.size → H1[q]? = H[q]? := fun q hq => by rw [← hH1, Array.getElem?_push, if_neg (Nat.ne_of_lt hq)]
  have hk : ∀ (k : Nat) (y : Nat × va_E), (wl b0 b cA T M)[k]? = some y → H1[y.1]? = H[y.1]? := fun k y hy => o1 y.1 ((hP k y hy).lt)
  have hE : ent b0 b cA (mvs M (T.length + 1) vs) (T.length + 1) (.inl n) = .inl (cA, n, .inl vs) := by
    show Sum.inl (cA, n, Sum.inl _) = Sum.inl (cA, n, Sum.inl _)
    apply congrArg (fun g => Sum.inl (cA, n, Sum.inl g))
    funext j
    simp [mvs]
  have hP1 : va_P (dC, dI) vwCl (wl b0 b cA T M ++ [(b0 + T.length, ent b0 b cA (mvs M (T.length + 1) vs) (T.length + 1) (.inl n))]) H1 := (hP.kept hk).app (fun k y hy => by
      have hz : k < 1 := (List.getElem?_eq_some_iff.mp hy).1
      rw [show k = 0 by omega] at hy
      cases hy
      rw [hE]
      show H1[b0 + T.length]? = _
      rw [← hsz]
      exact e1)
  have hW1 := hW.pushV hP1
  have hS1 : va_S (fun q => b0 ≤ q) s.heap H1 locs := ⟨Nat.le_trans hS.1 (by omega), fun y h1 h2 => (o1 y (Nat.lt_of_lt_of_le h1 hS.1)).trans (hS.2.1 y h1 h2), hS.2.2⟩
  have hq : (wl b0 b cA T M ++ [(b0 + T.length, ent b0 b cA (mvs M (T.length + 1) vs) (T.length + 1) (.inl n))])[T.length]? = some (b0 + T.length, .inl (cA, n, .inl vs)) := by
    have hl : (wl b0 b cA T M).length = T.length := by simp [wl]
    rw [List.getElem?_append_right (by omega), hl, hE]; simp
  rw [hsz]
  refine va_castA hx hb own (hX _ (List.mem_cons_of_mem _ (List.mem_cons_of_mem _ (List.mem_cons_of_mem _ (List.mem_cons_of_mem _ (List.mem_cons_of_mem _ List.mem_cons_self)))))) hP1 T.length hq hnI (h3 r hr) ?_
  exact k r hr l dC dI cA b0 b N xs p e s m args below meth c H1 locs ls C hW1 hS1 (by simp only [List.length_cons, List.length_append, List.length_nil] at hz ⊢; omega) hL
theorem t_fillS {S : Ly} {M : Mm} {c : Nat} {v : Int} (hs : shp S c = some (.inl 30)) (hc : c ≠ 0) (hv : R32 v) : Ret 0 0 0 mJ_fill [.inr c, .inl v] S M (Vo S (flM c v M 30)) := by
  have loop : ∀ (n i : Nat), i + n = 30 → AJ 0 0 0 mJ_fill (Vo S (flM c v M 30)) 0 0 5 [some (.inr c), some (.inl v), some (.inl i), some (.inl 30)] [] S (flM c v M i) := by
    intro n
    induction n with
    | zero =>
      intro i hi
      have : i = 30 := by omega
      subst this
      refine aJ_fill [] 30 (fun hM => ?_)
      exact ⟨by decide, vo_eq rfl⟩
    | succ n ih =>
      intro i hi
      have h2 := ih (i + 1) (by omega)
      rw [show ((i + 1 : Nat) : Int) = (i : Int) + 1 by omega] at h2
      have e : mset (flM c v M i) c i v = flM c v M (i + 1) := by
        funext c' j
        unfold mset flM
        by_cases q : c' = c ∧ j = (i : Int)
        · rw [if_pos q, if_pos (by omega)]
        · rw [if_neg q]
          by_cases q2 : c' = c ∧ 0 ≤ j ∧ j < i
          · rw [if_pos q2, if_pos (by omega)]
          · rw [if_neg q2, if_neg (by omega)]
      refine aJ_fill [5] 30 (fun hM => ?_)
      refine ⟨by omega, ite_i (fun q => ?_) (fun q => by omega)⟩
      conv => whnf
      rw [hs]
      refine ⟨⟨hc, by omega, by omega, by omega, hv⟩, ?_⟩
      rw [e]
      exact h2
  have h0 := loop 30 0 (by omega)
  have e0 : flM c v M ((0 : Nat) : Int) = M := by
    funext c' j
    unfold flM
    rw [if_neg (by omega)]
  rw [e0] at h0
  refine eJ_fill [5] 30 (Nat.le_of_ble_eq_true rfl) (fun hM => ?_)
  conv => whnf
  rw [hs]
  exact h0
