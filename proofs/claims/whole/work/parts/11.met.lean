/-! ===== whole runs of the abstract machine are the machine's ===== -/
theorem am_run_le : ∀ (n : Nat) {m pc : Nat} {ls : List (Option Value)} {st : List Value} {h : List am_C} {r : Option Value} {h' : List am_C}, am_run n m pc ls st h = some (r, h') → am_le h h' := by
  intro n
  induction n with
  | zero => intro m pc ls st h r h' hx; simp [am_run] at hx
  | succ n ih =>
    intro m pc ls st h r h' hx
    rw [am_run] at hx
    cases he : am_E m pc with
    | none => rw [he] at hx; cases hx
    | some e =>
      obtain ⟨i, nx, a, b, c, k, l⟩ := e
      rw [he] at hx
      try dsimp only at hx
      match hk : am_kd i b with
      | 0 =>
        rw [hk] at hx
        try dsimp only at hx
        cases hs : am_s am_df am_ft i nx a b k l ls st h with
        | none => rw [hs] at hx; cases hx
        | some o =>
          obtain ⟨g, pc', ls', st', h1⟩ := o
          rw [hs] at hx
          try dsimp only at hx
          by_cases hg : g
          · rw [if_pos hg] at hx
            exact (am_s_le hs).tr (ih hx)
          · rw [if_neg hg] at hx; cases hx
      | 1 =>
        rw [hk] at hx
        try dsimp only at hx
        cases hs : am_call am_kc am_ml a b c st h with
        | none => rw [hs] at hx; cases hx
        | some o =>
          obtain ⟨j, as, rest⟩ := o
          rw [hs] at hx
          try dsimp only at hx
          cases hr : am_run n j 0 (am_ent (am_ml j) as) [] h with
          | none => rw [hr] at hx; cases hx
          | some o =>
            obtain ⟨r1, h1⟩ := o
            rw [hr] at hx
            exact (ih hr).tr (ih hx)
      | 2 =>
        rw [hk] at hx
        try dsimp only at hx
        cases hs : am_ret i a st with
        | none => rw [hs] at hx; cases hx
        | some o =>
          obtain ⟨g, r1⟩ := o
          rw [hs] at hx
          try dsimp only at hx
          by_cases hg : g
          · rw [if_pos hg] at hx
            cases hx
            exact am_le.rf _
          · rw [if_neg hg] at hx; cases hx
      | k + 3 => rw [hk] at hx; cases hx
theorem am_tk_eq : ∀ (n : Nat) (st acc as st' : List Value), am_tk n st acc = some (as, st') → ∃ l, st = l ++ st' ∧ l.length = n ∧ as = l.reverse ++ acc
  | 0, st, acc, as, st', h => by
    cases h
    exact ⟨[], rfl, rfl, rfl⟩
  | n + 1, [], acc, as, st', h => by cases h
  | n + 1, v :: st, acc, as, st', h => by
    obtain ⟨l, h1, h2, h3⟩ := am_tk_eq n st (v :: acc) as st' h
    exact ⟨v :: l, by rw [h1]; rfl, by simp [h2], by rw [h3]; simp⟩
theorem am_sl_len (vs : List Value) : (lg_sl vs).length = (vs.map fun v => v.category).sum := by
  induction vs with
  | nil => rfl
  | cons v vs ih =>
    have e : lg_sl (v :: vs) = (if v.category = 2 then [.val v, .second] else [.val v]) ++ lg_sl vs := rfl
    rw [e, List.length_append, ih, List.map_cons, List.sum_cons]
    rcases lv_cat v with h | h <;> simp [h]
/-- the arguments as locals -/
theorem am_ent_get {ρ : Nat → Nat} : ∀ (vs : List Value) (n off i : Nat) (v : Value), am_get (am_ent n vs) i = some (some v) → (off + i, am_t ρ v) ∈ lv_args off (vs.map (am_t ρ)) ∧ v ∈ vs
  | [], n, off, i, v, h => by
    have : am_ent n [] = List.replicate n none := by cases n <;> rfl
    rw [this, am_get_eq] at h
    have := List.eq_of_mem_replicate (List.mem_of_getElem? h)
    cases this
  | w :: vs, 0, off, i, v, h => by simp [am_ent, am_get] at h
  | w :: vs, n + 1, off, 0, v, h => by
    have hz1 : am_get (am_ent (n + 1) (w :: vs)) 0 = some (some w) := by cases w <;> first | rfl | (cases n <;> rfl)
    rw [hz1] at h
    cases h
    exact ⟨by simp [lv_args], List.mem_cons_self⟩
  | w :: vs, n + 1, off, i + 1, v, h => by
    have key : ∀ (k j : Nat), am_get (am_ent k vs) j = some (some v) → off + (i + 1) = off + (if (am_t ρ w).category = 2 then 2 else 1) + j → (off + (i + 1), am_t ρ v) ∈ lv_args off ((w :: vs).map (am_t ρ)) ∧ v ∈ w :: vs := by
      intro k j hj e
      have := am_ent_get (ρ := ρ) vs k (if (am_t ρ w).category = 2 then off + 2 else off + 1) j v hj
      refine ⟨?_, List.mem_cons_of_mem _ this.2⟩
      rw [List.map_cons, lv_args]
      refine List.mem_cons_of_mem _ ?_
      rw [e]
      split at this
      · rename_i hc
        rw [if_pos hc, if_pos hc]
        exact this.1
      · rename_i hc
        rw [if_neg hc, if_neg hc]
        exact this.1
    cases w with
    | long x =>
      cases n with
      | zero => exact absurd (show (none : Option (Option Value)) = some (some v) from h) (by simp)
      | succ n =>
        cases i with
        | zero => exact absurd (show some (none : Option Value) = some (some v) from h) (by simp)
        | succ i => exact key n i h (by simp [am_t, Value.category]; omega)
    | double x =>
      cases n with
      | zero => exact absurd (show (none : Option (Option Value)) = some (some v) from h) (by simp)
      | succ n =>
        cases i with
        | zero => exact absurd (show some (none : Option Value) = some (some v) from h) (by simp)
        | succ i => exact key n i h (by simp [am_t, Value.category]; omega)
    | int x => exact key n i h (by simp [am_t, Value.category]; omega)
    | float x => exact key n i h (by simp [am_t, Value.category]; omega)
    | ref x => exact key n i h (by simp [am_t, Value.category]; omega)
    | null => exact key n i h (by simp [am_t, Value.category]; omega)
    | retAddr x => exact key n i h (by simp [am_t, Value.category]; omega)
theorem am_ret_st {i : Jvm.ClassFile.Instr} {a : Nat} {st : List Value} {g : Prop} {r : Option Value} (h : am_ret i a st = some (g, r)) : st = r.toList := by
  cases i <;> simp only [am_ret] at h
  all_goals first
    | (cases h; done)
    | skip
  all_goals (repeat' split at h)
  all_goals first
    | (cases h; done)
    | (cases h; rfl)
theorem am_ext.mv {ρ : Nat → Nat} {L : Nat} {xs : Nat → Int32} {A : Nat → Prop} {u U : State} {H : Heap} (hvm : u.vm.Alike U.vm) (hnw : ∀ w ∈ am_NW, va_Nw w u → va_Nw w U) (h : am_ext ρ L xs A u H) : am_ext ρ L xs A U H := by
  obtain ⟨h1, ⟨f, h2⟩, h3, h4, ⟨h5, h6, h7⟩, h8, h9, h10, h11⟩ := h
  exact ⟨fun x C n d q => (h1 x C n d q).moved hvm, ⟨f, h2.moved hvm⟩, h3, h4.moved hvm, ⟨h5.moved hvm, h6, h7⟩, fun w hw => hnw w hw (h8 w hw), h9.moved hvm, h10.moved hvm, h11.moved hvm⟩
theorem am_ext.kp {ρ : Nat → Nat} {L : Nat} {xs : Nat → Int32} {A : Nat → Prop} {U : State} {H H1 : Heap} (hz : H.size ≤ H1.size) (hq : ∀ a : Nat, a < H.size → ¬ A a → H1[a]? = H[a]?) (h : am_ext ρ L xs A U H) : am_ext ρ L xs A U H1 := by
  obtain ⟨h1, ⟨f, h2⟩, h3, h4, ⟨h5, h6, h7⟩, h8, h9, h10, h11⟩ := h
  exact ⟨fun x C n d q => (h1 x C n d q).kept hq, ⟨f, h2.kept hq⟩, h3, h4, ⟨h5.kept (hq _ h6 h7), Nat.lt_of_lt_of_le h6 hz, h7⟩, h8, h9, h10, h11⟩
theorem am_ext.nw {ρ : Nat → Nat} {L : Nat} {xs : Nat → Int32} {A B : Nat → Prop} {U : State} {H : Heap} (hAB : ∀ q, B q → A q) (h : am_ext ρ L xs A U H) : am_ext ρ L xs B U H := by
  obtain ⟨h1, ⟨f, h2⟩, h3, h4, ⟨h5, h6, h7⟩, h8, h9, h10, h11⟩ := h
  exact ⟨fun x C n d q => (h1 x C n d q).narrow hAB, ⟨f, h2.narrow hAB⟩, h3, h4, ⟨h5, h6, fun q => h7 (hAB _ q)⟩, h8, h9, h10, h11⟩
theorem am_ext.rho {ρ ρ' : Nat → Nat} {L : Nat} {xs : Nat → Int32} {A : Nat → Prop} {U : State} {H : Heap} (e : ∀ k, k < 6 → ρ' k = ρ k) (h : am_ext ρ L xs A U H) : am_ext ρ' L xs A U H := by
  obtain ⟨h1, ⟨f, h2⟩, h3, h4, ⟨h5, h6, h7⟩, h8, h9, h10, h11⟩ := h
  refine ⟨fun x C n d q => ?_, ⟨f, ?_⟩, fun i j i1 i2 j1 j2 q => h3 i j i1 i2 j1 j2 ?_, ?_, ⟨?_, ?_, ?_⟩, h8, h9, h10, h11⟩
  · rw [e x (by have := am_xs_lt q; omega)]; exact h1 x C n d q
  · rw [e 0 (by decide)]; exact h2
  · rw [e i (by omega), e j (by omega)] at q; exact q
  · rw [e 4 (by decide)]; exact h4
  · rw [e 5 (by decide)]; exact h5
  · rw [e 5 (by decide)]; exact h6
  · rw [e 5 (by decide)]; exact h7
theorem am_nw_warm {s U : State} (hW : s.WarmedH U.vm) : ∀ w ∈ am_NW, va_Nw w s → va_Nw w U := by
  intro w hw h
  rcases am_NW_use hw with ⟨own, ix, y, hst, rfl⟩ | ⟨C, T, rfl⟩
  · exact va_Nw.warmM hW h
  · exact va_Nw.warmC hW h
theorem am_nw_same {u U : State} (e : u.vm = U.vm) : ∀ w ∈ am_NW, va_Nw w u → va_Nw w U := by
  intro w hw h
  rcases am_NW_use hw with ⟨own, ix, y, hst, rfl⟩ | ⟨C, T, rfl⟩
  · exact va_Nw.same rfl e h
  · exact va_Nw.same rfl e h
/-- a method's start and end, in the abstract machine's words -/
def am_PB (D : va_G) (τ : Nat → ClassId) (L : Nat) (xs : Nat → Int32) (ρ : Nat → Nat) (h : List am_C) (sz : Nat) (U : State) : Prop :=
  U.heap.size = sz ∧ va_P D am_cl (am_w ρ τ h) U.heap ∧ va_K D am_cl (am_tys τ) U ∧ va_D (fun _ => True) (am_w ρ τ h) ∧ am_ext ρ L xs (va_A (am_w ρ τ h) sz) U U.heap
def am_QB (D : va_G) (τ : Nat → ClassId) (L : Nat) (xs : Nat → Int32) (ρ : Nat → Nat) (n0 : Nat) (A : Nat → Prop) (r : Option Value) (h1 : List am_C) : Array Value → State → Outcome → State → Prop := fun _ st oc t =>
  (∃ ρ' : Nat → Nat, (∀ k, k < n0 → ρ' k = ρ k) ∧ am_ss h1.length r.toList ∧ (∀ c ∈ h1, am_scc h1.length c) ∧ am_dm L xs h1 ∧ oc = .returned (r.map (am_t ρ')) ∧ va_P D am_cl (am_w ρ' τ h1) t.heap ∧ va_D A (am_w ρ' τ h1)) ∧ va_F A st t
/-- where a run ends -/
def am_END (p : Program) (l : Launch) (e : Env) (R : Room) (s : State) (mm : MethodId) (args : Array Value) (below : List Frame) (meth : Method) (c : Code) (Q : State → Prop) (m : Nat) (D : va_G) (τ : Nat → ClassId) (A : Nat → Prop) (L : Nat) (xs : Nat → Int32) (n0 : Nat) (ρ0 : Nat → Nat) (C1 S1 : Nat) (r : Option Value) (h' : List am_C) : Prop :=
  ∀ {ρ : Nat → Nat} {H : Heap} {locs : List Loc} {lsC : Array Slot} {pc : Nat} {i : Jvm.ClassFile.Instr} {nx a b cc : Nat} {k : Int32} {lv : Int64} {g : Prop},
    am_inv D τ A s L xs n0 ρ0 (am_ml m) ρ [] r.toList h' H locs lsC → am_okb m pc (i, nx, a, b, cc, k, lv) = true → am_kd i b = 2 → am_ret i a r.toList = some (g, r) → g →
    W p l e R s mm args below meth c H locs C1 S1 Q (F0 mm pc lsC (r.toList.map (am_t ρ)))
def am_FRAME (n : Nat) : Prop := ∀ {p : Program} {l : Launch} {e : Env} {R : Room} {s : State} {mm : MethodId} {args : Array Value} {below : List Frame} {meth : Method} {c : Code} {Q : State → Prop} {m : Nat} {D : va_G} {τ : Nat → ClassId} {A : Nat → Prop} {L : Nat} {xs : Nat → Int32} {n0 : Nat} {ρ0 : Nat → Nat} {C1 S1 : Nat} {r : Option Value} {h' : List am_C},
    am_fix p R s mm args meth c m → (∀ q, s.heap.size ≤ q → A q) → am_ext ρ0 L xs A s s.heap → va_K D am_cl (am_tys τ) s → 6 ≤ n0 → C1 ≤ R.cells → S1 ≤ R.slots →
    am_END p l e R s mm args below meth c Q m D τ A L xs n0 ρ0 C1 S1 r h' →
    ∀ {pc : Nat} {ls : List (Option Value)} {st : List Value} {h : List am_C} {ρ : Nat → Nat} {H : Heap} {locs : List Loc} {lsC : Array Slot} {cells slots : Nat},
      am_run n m pc ls st h = some (r, h') → am_inv D τ A s L xs n0 ρ0 (am_ml m) ρ ls st h H locs lsC → cells + (h'.length - h.length) = C1 → slots + (am_sz h' - am_sz h) = S1 →
      W p l e R s mm args below meth c H locs cells slots Q (F0 mm pc lsC (st.map (am_t ρ)))
/-- a method's contract, out of its frames -/
theorem am_met {n j : Nat} (FR : am_FRAME n) (hJ : am_okJ j) {as : List Value} {h h1 : List am_C} {r1 : Option Value} (hr : am_run n j 0 (am_ent (am_ml j) as) [] h = some (r1, h1)) (hfit : am_fits as (am_ml j) = true)
    (l : Launch) {D : va_G} {τ : Nat → ClassId} {L : Nat} {xs : Nat → Int32} {ρ : Nat → Nat} (has : am_ss h.length as) (hh : ∀ c ∈ h, am_scc h.length c) (hdm : am_dm L xs h) (sz : Nat) :
    Met l (am_y j) (Cond.code (am_y j) (am_bc j) (am_ml j) (am_rt j) :: am_T) { frames := am_D j, cells := h1.length - h.length, slots := am_sz h1 - am_sz h, locals := am_Lo j } (va_Pc (as.map (am_t ρ)) (am_PB D τ L xs ρ h sz)) (am_QB D τ L xs ρ h.length (va_A (am_w ρ τ h) sz) r1 h1) (h1.length - h.length) (am_sz h1 - am_sz h) (va_A (am_w ρ τ h) sz) := by
  obtain ⟨j1, j2, j3, j4, j5⟩ := hJ
  refine va_MetF (cc := am_bc j) (maxL := am_ml j) (ret := am_rt j) j4 rfl ?_
  intro p e s m args below meth c s₁ B hml hv
  obtain ⟨rfl, hsz, hP, hK, hD0, hX⟩ := hv
  have hx := B.exec
  have hb := B.bytes
  have hret := B.returns
  have hts0 := atoms_spec (ws := Cond.code (am_y j) (am_bc j) (am_ml j) (am_rt j) :: am_T) B.pre
  have hts : ∀ w ∈ am_T, w.before ((as.map (am_t ρ)).toArray) s = true := fun w hw => hts0 w (List.mem_cons_of_mem _ hw)
  have hown : s.vm.findClass (am_on (am_ow j)) = some m.cls := by rw [← j3]; exact findClass_of_methodNamed B.named
  have hlocks := B.notSynchronized
  have hname : meth.name = (am_y j).name := (name_of_methodNamed B.named B.method).1
  subst hsz
  have hD := hD0.self (sz := s.heap.size)
  generalize hAe : va_A (am_w ρ τ h) s.heap.size = A at hD hX ⊢
  have hA : ∀ q : Nat, s.heap.size ≤ q → A q := fun q h => by rw [← hAe]; exact Or.inr h
  have hS : va_S A s.heap s.heap [] := va_S.rf
  have hfit' : (lg_sl (as.map (am_t ρ))).length ≤ am_ml j := by
    rw [am_sl_len]
    have e1 : (as.map (am_t ρ)).map (fun v => v.category) = as.map fun v => v.category := by
      rw [List.map_map]
      exact List.map_congr_left fun v _ => am_t_cat ρ v
    rw [e1]
    exact Nat.le_of_ble_eq_true hfit
  have hl := lv_entry (as.map (am_t ρ)) (n := am_ml j) hfit'
  rw [lg_entry_eq]
  generalize (lg_sl (as.map (am_t ρ)) ++ List.replicate (am_ml j - (lg_sl (as.map (am_t ρ))).length) Slot.unset).toArray = lsC at hl ⊢
  have hlok : am_lok ρ h.length (am_ml j) (am_ent (am_ml j) as) lsC := ⟨hl.1, hl.2.1, fun i v hv => by
    have := am_ent_get (ρ := ρ) as (am_ml j) 0 i v hv
    rw [Nat.zero_add] at this
    exact ⟨has v this.2, hl.2.2 _ this.1⟩⟩
  refine FR (C1 := h1.length - h.length) (S1 := am_sz h1 - am_sz h) (r := r1) (h' := h1) (n0 := h.length) (ρ0 := ρ) (st := []) ⟨hx, hb, hml, hown, hts, Nat.le_refl _, Nat.le_refl _, fun q => hname.trans q⟩ hA hX hK hdm.1 (Nat.le_refl _) (Nat.le_refl _) ?_ hr ⟨hP, hD, hS, hlok, fun v hv => (by cases hv), hh, hdm, Nat.le_refl _, fun _ _ => rfl⟩ (Nat.zero_add _) (Nat.zero_add _)
  intro ρ' H' locs' lsC' pc i nx a b cc k lv g I hok hkd hrt hg
  obtain ⟨iP, iD, iS, il, ist, ih, idm, in0, iρ⟩ := I
  have fin : ∀ (v : Option Value), v = r1.map (am_t ρ') → ∀ t : State, t.heap = H' → s.WarmedH t.vm → am_QB D τ L xs ρ h.length A r1 h1 ((as.map (am_t ρ)).toArray) s (.returned v) t := by
    intro v hv t ht _
    subst hv
    exact ⟨⟨ρ', iρ, ist, ih, idm, rfl, by rw [ht]; exact iP, iD⟩, iS.F ht⟩
  cases i with
  | return_ =>
    simp only [am_okb, am_okb1, Bool.and_eq_true, decide_eq_true_eq] at hok
    simp only [am_lni] at hok
    obtain ⟨⟨hd, -⟩, hrt2⟩ := hok
    simp only [am_ret] at hrt
    split at hrt
    · rename_i e0
      cases hrt
      exact W.vret hx hb (hret.trans hrt2) (fun t ht hW => fin none rfl t ht hW) iS.2.2 hd
    · cases hrt
  | ireturn =>
    simp only [am_okb, am_okb1, Bool.and_eq_true, decide_eq_true_eq] at hok
    simp only [am_lni] at hok
    obtain ⟨⟨hd, -⟩, hrt2⟩ := hok
    simp only [am_ret] at hrt
    split at hrt
    · rename_i v e0
      cases a with
      | zero =>
        simp only [decide_eq_true_eq] at hrt2
        cases hrt
        exact W.iret (v := v) hx hb (hret.trans hrt2) (fun t ht hW => fin (some (.int v)) rfl t ht hW) iS.2.2 hd
      | succ a =>
        simp only [decide_eq_true_eq] at hrt2
        cases hrt
        exact W.zret (v := v) (ty := .boolean) hx hb (hret.trans hrt2) (by rcases hg with rfl | rfl <;> decide +kernel) (fun t ht hW => fin (some (.int v)) rfl t ht hW) iS.2.2 hd
    · cases hrt
  | lreturn =>
    simp only [am_okb, am_okb1, Bool.and_eq_true, decide_eq_true_eq] at hok
    simp only [am_lni] at hok
    obtain ⟨⟨hd, -⟩, hrt2⟩ := hok
    simp only [am_ret] at hrt
    split at hrt
    · rename_i v e0
      cases hrt
      exact W.lret (v := v) hx hb (hret.trans hrt2) (fun t ht hW => fin (some (.long v)) rfl t ht hW) iS.2.2 hd
    · cases hrt
  | areturn =>
    simp only [am_okb, am_okb1, Bool.and_eq_true, decide_eq_true_eq] at hok
    simp only [am_lni] at hok
    obtain ⟨⟨hd, -⟩, hrt2⟩ := hok
    obtain ⟨rt, hrt3, hrt4⟩ : ∃ rt, am_rt j = some rt ∧ ((∃ n, rt = .object n) ∨ ∃ t, rt = .array t) := by
      unfold am_isref at hrt2
      split at hrt2
      · rename_i n e1; exact ⟨_, e1, Or.inl ⟨n, rfl⟩⟩
      · rename_i n e1; exact ⟨_, e1, Or.inr ⟨n, rfl⟩⟩
      · cases hrt2
    simp only [am_ret] at hrt
    split at hrt
    · rename_i v e0
      cases hrt
      exact W.aret (v := .ref (ρ' v)) hx hb (hret.trans hrt3) hrt4 (Or.inr ⟨_, rfl⟩) (fun t ht hW => fin (some (.ref (ρ' v))) rfl t ht hW) iS.2.2 hd
    · cases hrt
      exact W.aret (v := .null) hx hb (hret.trans hrt3) hrt4 (Or.inl rfl) (fun t ht hW => fin (some .null) rfl t ht hW) iS.2.2 hd
    · cases hrt
  | _ => simp [am_ret] at hrt
