/-! THE CLAIM OUT OF ONE WALK OF THE LAW'S BODY. Your part is whole_start (and what it stands on); all else here is the same for every law, but numbers. -/
def R_law : String := "TextIndicesLaw"
def lw_P (b : Addr) (xs : List Int32) (args : Array Value) (s : State) : Prop := args = #[.ref b] ∧ s.IntsAt b xs ∧ xs.length ≤ 2048 ∧ (Jvm.Cond.and given_1 narrow_1).before args s = true
def lw_Q (_ : Array Value) (s : State) (o : Outcome) (t : State) : Prop := o = .returned (some (.int 1)) ∧ Framed s o t [] 600000 7302250
def lw_Z (below : List Frame) (a : Array Value) (s : State) : State → Prop := fun t => ∃ o, t.status = .running ∧ Ended t below o ∧ lw_Q a s o t
/-- the law's own end, with 1 on the stack, nothing written that was there before, its room as the claim has it -/
theorem lw_ret {p : Program} {l : Launch} {e : Env} {s : State} {m : MethodId} {below : List Frame} {meth : Method} {c : Code} {b : Nat} (hx : p.tables.exec = Jvm.exec) (hb : c.code = code) (hr : meth.sig.returnType = ret) (hlocks : meth.locks = false) {pc : Nat} {H : Heap} {ls : Array Slot} (hdg : decode code pc = .ok (.ireturn, 1)) : W p l e room_1 s m #[Value.ref b] below meth c H [] 600000 7302250 (lw_Z below #[Value.ref b] s) (F0 m pc ls [.int 1]) := by
  intro T hT X
  obtain ⟨fs, hret, hrun, hended, hW, hframe⟩ := X.leave (v := some (.int 1)) (hlocks := hlocks) (fun h => by rw [hr] at h; cases h)
  have hmeth' : T.vm.method? m = some meth := X.method'
  refine ⟨T.setFrames fs, ?_, .returned (some (.int 1)), hrun, hended, rfl, ⟨_, rfl⟩, hW, hframe⟩
  jvm_step X.here [X.here.top, hx, hb, hdg, hmeth', hr, ret, narrow_b1]
  (try refine ⟨rfl, ?_⟩); (try refine ⟨rfl, ?_⟩)
  first | (intro acts; rw [hret _ acts rfl rfl rfl]) | rw [hret _ _ rfl rfl rfl]
  exact Steps.refl _
/-- what holds at the law's entry: the machine, the code, the tables' words (any of lw_tbl by 'hts w (by decide +kernel)'), the script of L ints xs at the cell b, what the Statement gives of the start (any of its parts by flat_of_before) -/
def lw_At (p : Program) (s : State) (m : MethodId) (meth : Method) (c : Code) (b L : Nat) (xs : Nat → Int32) : Prop :=
  p.tables.exec = Jvm.exec ∧ c.code = code ∧ meth.sig.returnType = ret ∧ c.maxLocals = 4 ∧ s.vm.findClass R_law = some m.cls ∧ (∀ w ∈ lw_tbl, w.before #[Value.ref b] s = true) ∧ va_X b L xs s s.heap ∧ b < s.heap.size ∧ meth.locks = false ∧ (Jvm.Cond.and given_1 narrow_1).before #[Value.ref b] s = true
theorem am_QL_ao (C : String) (h : C = "java/lang/Object" ∨ C = "TextIndices$Language") : Cond.arrayOver (.object C) ∈ lw_tbl := by
  rcases h with rfl | rfl
  · exact tn 591 (by decide +kernel)
  · exact tn 115 (by decide +kernel)
/-! ===== the law's start ===== -/
/-- the heap before the law: what the abstract machine knows of it -/
def am_h0 (L : Nat) (xs : Nat → Int32) : List am_C := [.inl (4, (0, .inr (.inr (.inr (.inr fun _ => none))))), .inr (99, []), .inr (99, []), .inr (99, []), .inr (99, []), .inl (0, (L, .inl xs))]
theorem am_dom {s : State} {args : Array Value} (hts : ∀ w ∈ am_T, w.before args s = true) (hao : (Cond.arrayOver (.object "java/lang/Object")).before args s = true) (hal : (Cond.arrayOver (.object "TextIndices$Language")).before args s = true) : ∃ (D : va_G) (τ : Nat → ClassId), va_K D am_cl (am_tys τ) s := by
  have hC : ∀ ci : Nat, ∃ z : ClassId × (Nat → Nat), ∀ q : vw_C, am_cl[ci]? = some q → u_Kn s q.1 q.2.1 q.2.2 z.1 z.2 := by
    intro ci
    cases hq : am_cl[ci]? with
    | none => exact ⟨(0, fun _ => 0), fun q h => by cases h⟩
    | some q =>
      obtain ⟨C, T, N⟩ := q
      obtain ⟨k1, k2, k3, k4, k5, k6, k7⟩ := am_okC_all ci C T N hq
      obtain ⟨cC, iS, hk⟩ := u_known hts k1 (hts _ k4)
      exact ⟨(cC, iS), fun q h => by cases h; exact hk⟩
  obtain ⟨z, hz⟩ := Classical.axiomOfChoice hC
  have hP : ∀ {ty : FieldType}, (Cond.arrayClass ty).before args s = true → ∃ cA, ArrOfT s cA ty ∧ s.vm.findClass ("[" ++ ty.toString) = some cA := by
    intro ty h
    obtain ⟨cA, kA, comp, h1, h2, h3⟩ := Cond.arrayClass_spec h
    exact ⟨cA, fun n z => ⟨fun k h => (by cases h), kA, h2, comp, h3⟩, h1⟩
  have hO : ∀ {C : String}, (Cond.arrayOver (.object C)).before args s = true → ∃ cA, ArrOfT s cA (.object C) ∧ va_RA s cA (.object C) := by
    intro C h
    obtain ⟨comp, cA, kA, h1, h2, h3, h4, h5⟩ := Cond.arrayOver_spec h
    exact ⟨cA, fun n z => ⟨fun k h => (by cases h), kA, h3, comp, h4⟩, kA, comp, h3, h4, h1, h5⟩
  obtain ⟨c0, a0, b0⟩ := hP (ty := .int) (hts _ am_ac_int)
  obtain ⟨c1, a1, b1⟩ := hP (ty := .byte) (hts _ am_ac_byte)
  obtain ⟨c2, a2, b2⟩ := hP (ty := .boolean) (hts _ am_ac_boolean)
  obtain ⟨c3, a3, b3⟩ := hP (ty := .long) (hts _ am_ac_long)
  obtain ⟨c4, a4, b4⟩ := hO hao
  obtain ⟨c5, a5, b5⟩ := hO hal
  refine ⟨(fun ci => (z ci).1, fun ci => (z ci).2), fun k => match k with
    | 0 => c0
    | 1 => c1
    | 2 => c2
    | 3 => c3
    | 4 => c4
    | _ => c5, fun ci q h => hz ci q h, fun k q h => ?_⟩
  match k, h with
  | 0, h => cases h; exact ⟨a0, b0⟩
  | 1, h => cases h; exact ⟨a1, b1⟩
  | 2, h => cases h; exact ⟨a2, b2⟩
  | 3, h => cases h; exact ⟨a3, b3⟩
  | 4, h => cases h; exact ⟨a4, b4⟩
  | 5, h => cases h; exact ⟨a5, b5⟩
  | k + 6, h => simp [am_tys] at h
theorem am_ext0 {s : State} {b L : Nat} {xs : Nat → Int32} (hts0 : ∀ w ∈ lw_tbl, w.before #[Value.ref b] s = true) (hX : va_X b L xs s s.heap) (hbl : b < s.heap.size) (hgv : (Jvm.Cond.and given_1 narrow_1).before #[Value.ref b] s = true) : ∃ ρ : Nat → Nat, ρ 5 = b ∧ am_ext ρ L xs (fun q => s.heap.size ≤ q) s s.heap := by
  have hs := flat_of_before _ hgv
  have hts : ∀ w ∈ am_T, w.before #[Value.ref b] s = true := fun w hw => hts0 w (am_T_in w hw)
  have hA : ∀ a : Nat, a < s.heap.size → ¬ (fun q : Nat => s.heap.size ≤ q) a := fun a h q => absurd h (Nat.not_lt.mpr q)
  obtain ⟨t0, ht0, hT⟩ := va_Tof (tm := .static "java/util/ArrayList" "DEFAULTCAPACITY_EMPTY_ELEMENTDATA" "[Ljava/lang/Object;") (ty := .object "java/lang/Object") (N := 0) (f := fun _ => .null) (A := fun q => s.heap.size ≤ q) (args := #[Value.ref b]) (s := s) (by decide) (hs _ (by decide +kernel)) (va_eqt (hs _ (by decide +kernel))) (fun j hj => absurd hj (Nat.not_lt_zero j)) hA
  obtain ⟨k1, k2, k3, k4, k5, k6, k7⟩ := am_okC_all 5 _ _ _ rfl
  have hZ := va_Zof (hts0 _ am_ls_DEFA) (hts _ k5) ht0 hA
  obtain ⟨ad, hE⟩ := va_Ecof (args := #[Value.ref b]) (s := s) (SC := "TextIndices$Kind") (E := "TextIndices$Kind") (d := "LTextIndices$Kind;") (nm := ["WORD", "BEGINNING", "PHRASE"]) (F := []) (A := fun q => s.heap.size ≤ q)
    (fun i hi => by
      match i, hi with
      | 0, _ => exact hts0 _ am_ls_WORD
      | 1, _ => exact hts0 _ am_ls_BEGI
      | 2, _ => exact hts0 _ am_ls_PHRA
      | i + 3, hi => simp at hi; omega)
    (hts _ am_ini_Kind)
    (fun i hi => by
      match i, hi with
      | 0, _ => exact hs _ (by decide +kernel)
      | 1, _ => exact hs _ (by decide +kernel)
      | 2, _ => exact hs _ (by decide +kernel)
      | i + 3, hi => simp at hi; omega)
    (fun q hq => by cases hq)
    (fun i j hi hj hij => by
      match i, j, hi, hj, hij with
      | 0, 0, _, _, h => exact absurd rfl h
      | 0, 1, _, _, _ => exact Or.inr (hs _ (by decide +kernel))
      | 0, 2, _, _, _ => exact Or.inr (hs _ (by decide +kernel))
      | 1, 0, _, _, _ => exact Or.inl (hs _ (by decide +kernel))
      | 1, 1, _, _, h => exact absurd rfl h
      | 1, 2, _, _, _ => exact Or.inr (hs _ (by decide +kernel))
      | 2, 0, _, _, _ => exact Or.inl (hs _ (by decide +kernel))
      | 2, 1, _, _, _ => exact Or.inl (hs _ (by decide +kernel))
      | 2, 2, _, _, h => exact absurd rfl h
      | i + 3, _, hi, _, _ => simp at hi; omega
      | _, j + 3, _, hj, _ => simp at hj; omega)
    hA
  obtain ⟨mi, hM⟩ := va_Mi.of (args := #[Value.ref b]) (s := s) (C := "[Ljava/lang/Object;") (hs _ (by decide +kernel))
  refine ⟨fun k => match k with
    | 0 => t0
    | 1 => ad 0
    | 2 => ad 1
    | 3 => ad 2
    | 4 => mi
    | _ => b, rfl, ?_, ⟨_, hT⟩, ?_, hM, ⟨hX, hbl, hA b hbl⟩, fun w hw => ?_, va_Dc.of (hts0 _ am_w_gc.1), va_AO.of (hts0 _ (am_QL_ao "java/lang/Object" (Or.inl rfl))), va_AO.of (hts0 _ (am_QL_ao "TextIndices$Language" (Or.inr rfl)))⟩
  · intro x C n d hx
    match x, hx with
    | 0, hx => cases hx; exact hZ
    | 1, hx => cases hx; exact (hE.1 0 (by decide)).1
    | 2, hx => cases hx; exact (hE.1 1 (by decide)).1
    | 3, hx => cases hx; exact (hE.1 2 (by decide)).1
    | x + 4, hx => simp [am_xs] at hx
  · intro i j i1 i2 j1 j2 e
    match i, j, i1, i2, j1, j2, e with
    | 1, 1, _, _, _, _, _ => rfl
    | 1, 2, _, _, _, _, e => exact absurd (hE.2 0 1 (by decide) (by decide) e) (by decide)
    | 1, 3, _, _, _, _, e => exact absurd (hE.2 0 2 (by decide) (by decide) e) (by decide)
    | 2, 1, _, _, _, _, e => exact absurd (hE.2 1 0 (by decide) (by decide) e) (by decide)
    | 2, 2, _, _, _, _, _ => rfl
    | 2, 3, _, _, _, _, e => exact absurd (hE.2 1 2 (by decide) (by decide) e) (by decide)
    | 3, 1, _, _, _, _, e => exact absurd (hE.2 2 0 (by decide) (by decide) e) (by decide)
    | 3, 2, _, _, _, _, e => exact absurd (hE.2 2 1 (by decide) (by decide) e) (by decide)
    | 3, 3, _, _, _, _, _ => rfl
    | 0, _, i1, _, _, _, _ => omega
    | i + 4, _, _, i2, _, _, _ => omega
    | _, 0, _, _, j1, _, _ => omega
    | _, j + 4, _, _, _, j2, _ => omega
  · have hb := hts0 w (am_NW_in w hw)
    rcases am_NW_use hw with ⟨own, ix, y, hst, rfl⟩ | ⟨C, T, rfl⟩
    · exact va_Nw.of rfl hb
    · exact va_Nw.of rfl hb
/-- THE LAW, out of one run of the abstract machine -/
theorem law_start {p : Program} {e : Env} {s : State} {m : MethodId} {below : List Frame} {meth : Method} {c : Code} (l : Launch) {b L : Nat} {xs : Nat → Int32} (C0 : lw_At p s m meth c b L xs) {n : Nat} {h' : List am_C} (hrun : am_run n m_Law_law 0 [some (.ref 5), none, none, none] [] (am_h0 L xs) = some (some (.int 1), h')) (hc : h'.length ≤ 600006) (hz : am_sz h' ≤ am_sz (am_h0 L xs) + 7302250) :
    W p l e room_1 s m #[Value.ref b] below meth c s.heap [] 0 0 (lw_Z below #[Value.ref b] s) (entryFrame m ([Value.ref b] : List Value).toArray 4) := by
  obtain ⟨hx, hb, hr, hml, hown, hts0, hX, hbl, hlocks, hgv⟩ := C0
  have hts : ∀ w ∈ am_T, w.before #[Value.ref b] s = true := fun w hw => hts0 w (am_T_in w hw)
  obtain ⟨D, τ, hK⟩ := am_dom hts (hts0 _ (am_QL_ao "java/lang/Object" (Or.inl rfl))) (hts0 _ (am_QL_ao "TextIndices$Language" (Or.inr rfl)))
  obtain ⟨ρ0, e5, hext⟩ := am_ext0 hts0 hX hbl hgv
  have hl := lv_entry ([.ref b]) (n := 4) (Nat.le_of_ble_eq_true rfl)
  rw [lg_entry_eq]
  generalize (lg_sl ([.ref b]) ++ List.replicate (4 - (lg_sl ([.ref b])).length) Slot.unset).toArray = lsC at hl ⊢
  have hC1 : h'.length - 6 ≤ room_1.cells := by show _ ≤ 600000; omega
  have hS1 : am_sz h' - am_sz (am_h0 L xs) ≤ room_1.slots := by show _ ≤ 7302250; omega
  have hw : am_w ρ0 τ (am_h0 L xs) = [] := rfl
  refine am_frame n (m := m_Law_law) (A := fun q => s.heap.size ≤ q) (D := D) (τ := τ) (L := L) (xs := xs) (n0 := 6) (ρ0 := ρ0) (ρ := ρ0) (C1 := h'.length - 6) (S1 := am_sz h' - am_sz (am_h0 L xs)) (st := []) ⟨hx, hb, hml, hown, hts, by decide, by decide, fun q => absurd q (by decide)⟩ (fun q h => h) hext hK (Nat.le_refl 6) hC1 hS1 ?_ hrun ⟨?_, ?_, va_S.rf, ⟨hl.1, hl.2.1, ?_⟩, fun v hv => (by cases hv), ?_, ⟨Nat.le_refl 6, rfl, ?_, rfl⟩, Nat.le_refl 6, fun _ _ => rfl⟩ (Nat.zero_add _) (Nat.zero_add _)
  · intro ρ H locs lsC2 pc i nx a b2 cc k lv g I hok hkd hrt hg
    obtain ⟨iP, iD, iS, il, ist, ih, idm, in0, iρ⟩ := I
    cases i with
    | ireturn =>
      simp only [am_okb, am_okb1, Bool.and_eq_true, decide_eq_true_eq] at hok
      simp only [am_lni] at hok
      obtain ⟨⟨hd, -⟩, -⟩ := hok
      refine va_forget (fun q hq => iS.2.2 q hq) ?_
      refine W.widen (k := 600000) (n := 7302250) hC1 hS1 ?_
      exact lw_ret hx hb hr hlocks hd
    | return_ => simp [am_ret] at hrt
    | lreturn => simp [am_ret] at hrt
    | areturn => simp [am_ret] at hrt
    | _ => simp [am_ret] at hrt
  · rw [hw]; exact fun k q h => by simp at h
  · rw [hw]; exact ⟨fun i j p q h => by simp at h, fun k q h => by simp at h⟩
  · intro i v hv
    match i, hv with
    | 0, hv =>
      cases hv
      refine ⟨by show 5 < 6; decide, ?_⟩
      show lsC[0]? = some (.val (.ref (ρ0 5)))
      rw [e5]
      exact lv_at hl 0 rfl
    | 1, hv => cases hv
    | 2, hv => cases hv
    | 3, hv => cases hv
    | i + 4, hv => simp [am_get] at hv
  · intro c hc
    simp only [am_h0, List.mem_cons, List.not_mem_nil, or_false] at hc
    rcases hc with rfl | rfl | rfl | rfl | rfl | rfl
    · exact fun i k h => by cases h
    · exact fun v hv => by cases hv
    · exact fun v hv => by cases hv
    · exact fun v hv => by cases hv
    · exact fun v hv => by cases hv
    · trivial
  · intro k h1 h4
    match k, h1, h4 with
    | 1, _, _ => rfl
    | 2, _, _ => rfl
    | 3, _, _ => rfl
    | 4, _, _ => rfl
    | 0, h1, _ => omega
    | k + 5, _, h4 => omega
