/-! ===== a step of the abstract machine is one of the machine ===== -/
def am_fix (p : Program) (R : Room) (s : State) (mm : MethodId) (args : Array Value) (meth : Method) (c : Code) (m : Nat) : Prop :=
  p.tables.exec = Jvm.exec ∧ c.code = am_bc m ∧ c.maxLocals = am_ml m ∧ s.vm.findClass (am_on (am_ow m)) = some mm.cls ∧ (∀ w ∈ am_T, w.before args s = true) ∧ am_D m ≤ R.frames ∧ am_Lo m ≤ R.locals ∧ ((am_y m).name = "<init>" → meth.name = "<init>")
def am_tys (τ : Nat → ClassId) : List (ClassId × FieldType) := [(τ 0, .int), (τ 1, .byte), (τ 2, .boolean), (τ 3, .long), (τ 4, .object "java/lang/Object"), (τ 5, .object "TextIndices$Language")]
/-- what was there before -/
def am_ext (ρ : Nat → Nat) (L : Nat) (xs : Nat → Int32) (A : Nat → Prop) (U : State) (H : Heap) : Prop :=
  (∀ x C n d, am_xs x = some (C, n, d) → va_Z C n d (.ref (ρ x)) A U H) ∧ (∃ f, va_T (.object "java/lang/Object") (ρ 0) 0 f A U H) ∧ (∀ i j, 1 ≤ i → i ≤ 3 → 1 ≤ j → j ≤ 3 → ρ i = ρ j → i = j) ∧ va_Mi "[Ljava/lang/Object;" (ρ 4) U ∧ (va_X (ρ 5) L xs U H ∧ ρ 5 < H.size ∧ ¬ A (ρ 5)) ∧ (∀ w ∈ am_NW, va_Nw w U) ∧ va_Dc U ∧ va_AO "java/lang/Object" U ∧ va_AO "TextIndices$Language" U
def am_inv (D : va_G) (τ : Nat → ClassId) (A : Nat → Prop) (s : State) (L : Nat) (xs : Nat → Int32) (n0 : Nat) (ρ0 : Nat → Nat) (mL : Nat) (ρ : Nat → Nat) (ls : List (Option Value)) (st : List Value) (h : List am_C) (H : Heap) (locs : List Loc) (lsC : Array Slot) : Prop :=
  va_P D am_cl (am_w ρ τ h) H ∧ va_D A (am_w ρ τ h) ∧ va_S A s.heap H locs ∧ am_lok ρ h.length mL ls lsC ∧ am_ss h.length st ∧ (∀ c ∈ h, am_scc h.length c) ∧ am_dm L xs h ∧ n0 ≤ h.length ∧ ∀ k, k < n0 → ρ k = ρ0 k
theorem am_fg_ok {ρ : Nat → Nat} {ty : FieldType} {v : Value} (h : am_fg ty v) : narrow ty (am_t ρ v) = am_t ρ v ∧ fits ty (am_t ρ v) = true := by
  cases ty <;> cases v <;> simp only [am_fg] at h
  all_goals first
    | exact absurd h id
    | (refine ⟨rfl, rfl⟩; done)
    | (rcases h with rfl | rfl)
  · exact (⟨by decide +kernel, by decide +kernel⟩ : narrow .boolean (.int 0) = .int 0 ∧ fits .boolean (.int 0) = true)
  · exact (⟨by decide +kernel, by decide +kernel⟩ : narrow .boolean (.int 1) = .int 1 ∧ fits .boolean (.int 1) = true)
theorem am_rf_sc {n : Nat} {f : Nat → Option Nat} (h : ∀ i k, f i = some k → k < n) (i : Nat) : am_sc n (va_rf (f i)) := by
  cases e : f i with
  | none => trivial
  | some k => exact h i k e
theorem am_t_rf (ρ : Nat → Nat) (o : Option Nat) : am_t ρ (va_rf o) = va_rf (o.map ρ) := by cases o <;> rfl
theorem am_hh_set {h : List am_C} {r : Nat} {c1 : am_C} (hh : ∀ c ∈ h, am_scc h.length c) (h1 : am_scc h.length c1) : ∀ c ∈ am_set h r c1, am_scc (am_set h r c1).length c := by
  intro c hc
  rw [am_len_set]
  rw [am_set_eq] at hc
  rcases List.mem_or_eq_of_mem_set hc with hc | rfl
  · exact hh c hc
  · exact h1
theorem am_hh_push {h : List am_C} {c1 : am_C} (hh : ∀ c ∈ h, am_scc h.length c) (h1 : am_scc (h.length + 1) c1) : ∀ c ∈ h ++ [c1], am_scc (h ++ [c1]).length c := by
  intro c hc
  rw [List.length_append, List.length_singleton]
  rcases List.mem_append.mp hc with hc | hc
  · exact am_scc_le (Nat.le_succ _) (hh c hc)
  · rw [List.mem_singleton.mp hc]; exact h1
theorem am_lok.ext {ρ ρ' : Nat → Nat} {n n' mL : Nat} {ls : List (Option Value)} {lsC : Array Slot} (h : am_lok ρ n mL ls lsC) (e : n ≤ n') (hr : ∀ k, k < n → ρ' k = ρ k) : am_lok ρ' n' mL ls lsC :=
  ⟨h.1, h.2.1, fun i v hv => ⟨am_sc_le e (h.2.2 i v hv).1, by rw [am_t_ext hr (h.2.2 i v hv).1]; exact (h.2.2 i v hv).2⟩⟩
theorem am_xs_lt {x : Nat} {q : String × String × String} (h : am_xs x = some q) : x < 4 := by
  rcases Nat.lt_or_ge x 4 with hx | hx
  · exact hx
  · obtain ⟨y, rfl⟩ : ∃ y, x = y + 4 := ⟨x - 4, by omega⟩
    simp [am_xs] at h
section SIM
variable {p : Program} {l : Launch} {e : Env} {R : Room} {s : State} {mm : MethodId} {args : Array Value} {below : List Frame} {meth : Method} {c : Code} {H : Heap} {locs : List Loc} {cells slots : Nat} {Q : State → Prop}
variable {m pc : Nat} {nx a b cc : Nat} {k : Int32} {lv : Int64} {ls ls' : List (Option Value)} {st st' : List Value} {h h' : List am_C} {g : Prop} {pc' : Nat} {D : va_G} {τ : Nat → ClassId} {A : Nat → Prop} {L : Nat} {xs : Nat → Int32} {n0 : Nat} {ρ0 ρ : Nat → Nat} {lsC : Array Slot}
/-- what is to be shown of an instruction -/
def am_STEP (p : Program) (l : Launch) (e : Env) (R : Room) (s : State) (mm : MethodId) (args : Array Value) (below : List Frame) (meth : Method) (c : Code) (Q : State → Prop) (m : Nat) (D : va_G) (τ : Nat → ClassId) (A : Nat → Prop) (L : Nat) (xs : Nat → Int32) (n0 : Nat) (ρ0 : Nat → Nat) (i : Jvm.ClassFile.Instr) : Prop :=
  ∀ {H : Heap} {locs : List Loc} {cells slots pc nx a b cc : Nat} {k : Int32} {lv : Int64} {ls ls' : List (Option Value)} {st st' : List Value} {h h' : List am_C} {g : Prop} {pc' : Nat} {ρ : Nat → Nat} {lsC : Array Slot},
    am_okb m pc (i, nx, a, b, cc, k, lv) = true → am_kd i b = 0 → am_s am_df am_ft i nx a b k lv ls st h = some (g, pc', ls', st', h') → g →
    am_inv D τ A s L xs n0 ρ0 (am_ml m) ρ ls st h H locs lsC → cells + (h'.length - h.length) ≤ R.cells → slots + (am_sz h' - am_sz h) ≤ R.slots →
    (∀ ρ' H' locs' lsC', am_inv D τ A s L xs n0 ρ0 (am_ml m) ρ' ls' st' h' H' locs' lsC' → W p l e R s mm args below meth c H' locs' (cells + (h'.length - h.length)) (slots + (am_sz h' - am_sz h)) Q (F0 mm pc' lsC' (st'.map (am_t ρ')))) →
    W p l e R s mm args below meth c H locs cells slots Q (F0 mm pc lsC (st.map (am_t ρ)))
/-- going on with the same heap -/
theorem am_kp (I : am_inv D τ A s L xs n0 ρ0 (am_ml m) ρ ls st h H locs lsC)
    (kk : ∀ ρ' H' locs' lsC', am_inv D τ A s L xs n0 ρ0 (am_ml m) ρ' ls' st' h H' locs' lsC' → W p l e R s mm args below meth c H' locs' (cells + (h.length - h.length)) (slots + (am_sz h - am_sz h)) Q (F0 mm pc' lsC' (st'.map (am_t ρ')))) {lsC' : Array Slot}
    (q1 : am_lok ρ h.length (am_ml m) ls' lsC') (q2 : am_ss h.length st') : W p l e R s mm args below meth c H locs cells slots Q (F0 mm pc' lsC' (st'.map (am_t ρ))) := by
  obtain ⟨hP, hD, hS, hl, hst, hh, hdm, hn0, hρ⟩ := I
  have := kk ρ H locs lsC' ⟨hP, hD, hS, q1, q2, hh, hdm, hn0, hρ⟩
  simpa only [Nat.sub_self, Nat.add_zero] using this
/-- going on with one cell changed -/
theorem am_ks {r : Nat} {c0 c1 : am_C} (I : am_inv D τ A s L xs n0 ρ0 (am_ml m) ρ ls st h H locs lsC) (hr : 6 ≤ r) (hc0 : am_get h r = some c0)
    (kk : ∀ ρ' H' locs' lsC', am_inv D τ A s L xs n0 ρ0 (am_ml m) ρ' ls st' (am_set h r c1) H' locs' lsC' → W p l e R s mm args below meth c H' locs' (cells + ((am_set h r c1).length - h.length)) (slots + (am_sz (am_set h r c1) - am_sz h)) Q (F0 mm pc' lsC' (st'.map (am_t ρ')))) (hz : am_z c1 = am_z c0) (hsc : am_scc h.length c1)
    (q2 : am_ss h.length st') {H1 : Heap} {locs1 : List Loc} (hP1 : va_P D am_cl ((am_w ρ τ h).set (r - 6) (ρ r, am_tc ρ τ c1)) H1) (hD1 : va_D A ((am_w ρ τ h).set (r - 6) (ρ r, am_tc ρ τ c1))) (hS1 : va_S A s.heap H1 locs1) :
    W p l e R s mm args below meth c H1 locs1 cells slots Q (F0 mm pc' lsC (st'.map (am_t ρ))) := by
  obtain ⟨hP, hD, hS, hl, hst, hh, hdm, hn0, hρ⟩ := I
  have := kk ρ H1 locs1 lsC ⟨by rw [am_w_set hr]; exact hP1, by rw [am_w_set hr]; exact hD1, hS1, by rw [am_len_set]; exact hl, by rw [am_len_set]; exact q2, am_hh_set hh hsc, hdm.set _ hr, by rw [am_len_set]; exact hn0, hρ⟩
  simpa only [am_len_set, am_sz_set hz h r hc0, Nat.sub_self, Nat.add_zero] using this
/-- going on with one cell more -/
theorem am_kn {c1 : am_C} (I : am_inv D τ A s L xs n0 ρ0 (am_ml m) ρ ls st h H locs lsC) (hsc : am_scc (h.length + 1) c1)
    (kk : ∀ ρ' H' locs' lsC', am_inv D τ A s L xs n0 ρ0 (am_ml m) ρ' ls (.ref h.length :: st') (h ++ [c1]) H' locs' lsC' → W p l e R s mm args below meth c H' locs' (cells + ((h ++ [c1]).length - h.length)) (slots + (am_sz (h ++ [c1]) - am_sz h)) Q (F0 mm pc' lsC' ((.ref h.length :: st').map (am_t ρ'))))
    (q2 : am_ss h.length st') {q : Nat} {H1 : Heap} {e1 : va_E} (he : am_tc (va_up ρ h.length q) τ c1 = e1) (hP1 : va_P D am_cl (am_w ρ τ h ++ [(q, e1)]) H1) (hD1 : va_D A (am_w ρ τ h ++ [(q, e1)])) (hS1 : va_S A s.heap H1 locs) :
    W p l e R s mm args below meth c H1 locs (cells + 1) (slots + am_z c1) Q (F0 mm pc' lsC (.ref q :: st'.map (am_t ρ))) := by
  obtain ⟨hP, hD, hS, hl, hst, hh, hdm, hn0, hρ⟩ := I
  have hr : ∀ j, j < h.length → va_up ρ h.length q j = ρ j := fun j hj => va_up_ne ρ q (by omega)
  have hw : am_w (va_up ρ h.length q) τ (h ++ [c1]) = am_w ρ τ h ++ [(q, e1)] := by
    rw [am_w_push hdm.1, am_w_ext hr hh, he, va_up_self]
  have := kk (va_up ρ h.length q) H1 locs lsC ⟨by rw [hw]; exact hP1, by rw [hw]; exact hD1, hS1, by rw [List.length_append]; exact hl.ext (Nat.le_add_right _ _) hr, by
    rw [List.length_append]; exact am_ss.cn (Nat.lt_succ_self _) (q2.le (Nat.le_add_right _ _)), am_hh_push hh hsc, hdm.push _, by rw [List.length_append]; exact Nat.le_trans hn0 (Nat.le_add_right _ _), fun j hj => by rw [hr j (Nat.lt_of_lt_of_le hj hn0)]; exact hρ j hj⟩
  have e2 : (h ++ [c1]).length - h.length = 1 := by simp
  have e3 : am_sz (h ++ [c1]) - am_sz h = am_z c1 := by rw [am_sz_push]; omega
  rw [e2, e3] at this
  have e4 : (Value.ref h.length :: st').map (am_t (va_up ρ h.length q)) = .ref q :: st'.map (am_t ρ) := by
    rw [List.map_cons, am_ts_ext hr st' q2]
    show Value.ref (va_up ρ h.length q h.length) :: _ = _
    rw [va_up_self]
  rw [e4] at this
  exact this
theorem am_st_iadd (F : am_fix p R s mm args meth c m) (hA : ∀ q, s.heap.size ≤ q → A q) (hX : am_ext ρ0 L xs A s s.heap) (hK : va_K D am_cl (am_tys τ) s) (h6 : 6 ≤ n0) : am_STEP p l e R s mm args below meth c Q m D τ A L xs n0 ρ0 (.iadd) := by
  intro H locs cells slots pc nx a b cc k lv ls ls' st st' h h' g pc' ρ lsC hok hkd hs hg I hcel hslo kk
  obtain ⟨hx, hb, hml, hown, hts, hfr, hlo, hin⟩ := F
  obtain ⟨hP, hD, hS, hl, hst, hh, hdm, hn0, hρ⟩ := id I
  simp only [am_okb, am_okb1, Bool.and_eq_true, decide_eq_true_eq, and_true] at hok
  try simp only [am_lni] at hok
  obtain ⟨hd, rfl⟩ := hok
  simp only [am_s] at hs
  split at hs
  · cases hs
    exact lv_iadd hx hb hd (am_kp I kk hl (am_ss.cn trivial hst.tl.tl))
  · cases hs
theorem am_st_isub (F : am_fix p R s mm args meth c m) (hA : ∀ q, s.heap.size ≤ q → A q) (hX : am_ext ρ0 L xs A s s.heap) (hK : va_K D am_cl (am_tys τ) s) (h6 : 6 ≤ n0) : am_STEP p l e R s mm args below meth c Q m D τ A L xs n0 ρ0 (.isub) := by
  intro H locs cells slots pc nx a b cc k lv ls ls' st st' h h' g pc' ρ lsC hok hkd hs hg I hcel hslo kk
  obtain ⟨hx, hb, hml, hown, hts, hfr, hlo, hin⟩ := F
  obtain ⟨hP, hD, hS, hl, hst, hh, hdm, hn0, hρ⟩ := id I
  simp only [am_okb, am_okb1, Bool.and_eq_true, decide_eq_true_eq, and_true] at hok
  try simp only [am_lni] at hok
  obtain ⟨hd, rfl⟩ := hok
  simp only [am_s] at hs
  split at hs
  · cases hs
    exact lv_isub hx hb hd (am_kp I kk hl (am_ss.cn trivial hst.tl.tl))
  · cases hs
theorem am_st_imul (F : am_fix p R s mm args meth c m) (hA : ∀ q, s.heap.size ≤ q → A q) (hX : am_ext ρ0 L xs A s s.heap) (hK : va_K D am_cl (am_tys τ) s) (h6 : 6 ≤ n0) : am_STEP p l e R s mm args below meth c Q m D τ A L xs n0 ρ0 (.imul) := by
  intro H locs cells slots pc nx a b cc k lv ls ls' st st' h h' g pc' ρ lsC hok hkd hs hg I hcel hslo kk
  obtain ⟨hx, hb, hml, hown, hts, hfr, hlo, hin⟩ := F
  obtain ⟨hP, hD, hS, hl, hst, hh, hdm, hn0, hρ⟩ := id I
  simp only [am_okb, am_okb1, Bool.and_eq_true, decide_eq_true_eq, and_true] at hok
  try simp only [am_lni] at hok
  obtain ⟨hd, rfl⟩ := hok
  simp only [am_s] at hs
  split at hs
  · cases hs
    exact lv_imul hx hb hd (am_kp I kk hl (am_ss.cn trivial hst.tl.tl))
  · cases hs
theorem am_st_iand (F : am_fix p R s mm args meth c m) (hA : ∀ q, s.heap.size ≤ q → A q) (hX : am_ext ρ0 L xs A s s.heap) (hK : va_K D am_cl (am_tys τ) s) (h6 : 6 ≤ n0) : am_STEP p l e R s mm args below meth c Q m D τ A L xs n0 ρ0 (.iand) := by
  intro H locs cells slots pc nx a b cc k lv ls ls' st st' h h' g pc' ρ lsC hok hkd hs hg I hcel hslo kk
  obtain ⟨hx, hb, hml, hown, hts, hfr, hlo, hin⟩ := F
  obtain ⟨hP, hD, hS, hl, hst, hh, hdm, hn0, hρ⟩ := id I
  simp only [am_okb, am_okb1, Bool.and_eq_true, decide_eq_true_eq, and_true] at hok
  try simp only [am_lni] at hok
  obtain ⟨hd, rfl⟩ := hok
  simp only [am_s] at hs
  split at hs
  · cases hs
    exact lv_iand hx hb hd (am_kp I kk hl (am_ss.cn trivial hst.tl.tl))
  · cases hs
theorem am_st_ishr (F : am_fix p R s mm args meth c m) (hA : ∀ q, s.heap.size ≤ q → A q) (hX : am_ext ρ0 L xs A s s.heap) (hK : va_K D am_cl (am_tys τ) s) (h6 : 6 ≤ n0) : am_STEP p l e R s mm args below meth c Q m D τ A L xs n0 ρ0 (.ishr) := by
  intro H locs cells slots pc nx a b cc k lv ls ls' st st' h h' g pc' ρ lsC hok hkd hs hg I hcel hslo kk
  obtain ⟨hx, hb, hml, hown, hts, hfr, hlo, hin⟩ := F
  obtain ⟨hP, hD, hS, hl, hst, hh, hdm, hn0, hρ⟩ := id I
  simp only [am_okb, am_okb1, Bool.and_eq_true, decide_eq_true_eq, and_true] at hok
  try simp only [am_lni] at hok
  obtain ⟨hd, rfl⟩ := hok
  simp only [am_s] at hs
  split at hs
  · cases hs
    exact lv_ishr hx hb hd (am_kp I kk hl (am_ss.cn trivial hst.tl.tl))
  · cases hs
theorem am_st_ladd (F : am_fix p R s mm args meth c m) (hA : ∀ q, s.heap.size ≤ q → A q) (hX : am_ext ρ0 L xs A s s.heap) (hK : va_K D am_cl (am_tys τ) s) (h6 : 6 ≤ n0) : am_STEP p l e R s mm args below meth c Q m D τ A L xs n0 ρ0 (.ladd) := by
  intro H locs cells slots pc nx a b cc k lv ls ls' st st' h h' g pc' ρ lsC hok hkd hs hg I hcel hslo kk
  obtain ⟨hx, hb, hml, hown, hts, hfr, hlo, hin⟩ := F
  obtain ⟨hP, hD, hS, hl, hst, hh, hdm, hn0, hρ⟩ := id I
  simp only [am_okb, am_okb1, Bool.and_eq_true, decide_eq_true_eq, and_true] at hok
  try simp only [am_lni] at hok
  obtain ⟨hd, rfl⟩ := hok
  simp only [am_s] at hs
  split at hs
  · cases hs
    exact lv_ladd hx hb hd (am_kp I kk hl (am_ss.cn trivial hst.tl.tl))
  · cases hs
theorem am_st_lsub (F : am_fix p R s mm args meth c m) (hA : ∀ q, s.heap.size ≤ q → A q) (hX : am_ext ρ0 L xs A s s.heap) (hK : va_K D am_cl (am_tys τ) s) (h6 : 6 ≤ n0) : am_STEP p l e R s mm args below meth c Q m D τ A L xs n0 ρ0 (.lsub) := by
  intro H locs cells slots pc nx a b cc k lv ls ls' st st' h h' g pc' ρ lsC hok hkd hs hg I hcel hslo kk
  obtain ⟨hx, hb, hml, hown, hts, hfr, hlo, hin⟩ := F
  obtain ⟨hP, hD, hS, hl, hst, hh, hdm, hn0, hρ⟩ := id I
  simp only [am_okb, am_okb1, Bool.and_eq_true, decide_eq_true_eq, and_true] at hok
  try simp only [am_lni] at hok
  obtain ⟨hd, rfl⟩ := hok
  simp only [am_s] at hs
  split at hs
  · cases hs
    exact lv_lsub hx hb hd (am_kp I kk hl (am_ss.cn trivial hst.tl.tl))
  · cases hs
theorem am_st_lmul (F : am_fix p R s mm args meth c m) (hA : ∀ q, s.heap.size ≤ q → A q) (hX : am_ext ρ0 L xs A s s.heap) (hK : va_K D am_cl (am_tys τ) s) (h6 : 6 ≤ n0) : am_STEP p l e R s mm args below meth c Q m D τ A L xs n0 ρ0 (.lmul) := by
  intro H locs cells slots pc nx a b cc k lv ls ls' st st' h h' g pc' ρ lsC hok hkd hs hg I hcel hslo kk
  obtain ⟨hx, hb, hml, hown, hts, hfr, hlo, hin⟩ := F
  obtain ⟨hP, hD, hS, hl, hst, hh, hdm, hn0, hρ⟩ := id I
  simp only [am_okb, am_okb1, Bool.and_eq_true, decide_eq_true_eq, and_true] at hok
  try simp only [am_lni] at hok
  obtain ⟨hd, rfl⟩ := hok
  simp only [am_s] at hs
  split at hs
  · cases hs
    exact lv_lmul hx hb hd (am_kp I kk hl (am_ss.cn trivial hst.tl.tl))
  · cases hs
theorem am_st_land (F : am_fix p R s mm args meth c m) (hA : ∀ q, s.heap.size ≤ q → A q) (hX : am_ext ρ0 L xs A s s.heap) (hK : va_K D am_cl (am_tys τ) s) (h6 : 6 ≤ n0) : am_STEP p l e R s mm args below meth c Q m D τ A L xs n0 ρ0 (.land) := by
  intro H locs cells slots pc nx a b cc k lv ls ls' st st' h h' g pc' ρ lsC hok hkd hs hg I hcel hslo kk
  obtain ⟨hx, hb, hml, hown, hts, hfr, hlo, hin⟩ := F
  obtain ⟨hP, hD, hS, hl, hst, hh, hdm, hn0, hρ⟩ := id I
  simp only [am_okb, am_okb1, Bool.and_eq_true, decide_eq_true_eq, and_true] at hok
  try simp only [am_lni] at hok
  obtain ⟨hd, rfl⟩ := hok
  simp only [am_s] at hs
  split at hs
  · cases hs
    exact lv_land hx hb hd (am_kp I kk hl (am_ss.cn trivial hst.tl.tl))
  · cases hs
theorem am_st_lor (F : am_fix p R s mm args meth c m) (hA : ∀ q, s.heap.size ≤ q → A q) (hX : am_ext ρ0 L xs A s s.heap) (hK : va_K D am_cl (am_tys τ) s) (h6 : 6 ≤ n0) : am_STEP p l e R s mm args below meth c Q m D τ A L xs n0 ρ0 (.lor) := by
  intro H locs cells slots pc nx a b cc k lv ls ls' st st' h h' g pc' ρ lsC hok hkd hs hg I hcel hslo kk
  obtain ⟨hx, hb, hml, hown, hts, hfr, hlo, hin⟩ := F
  obtain ⟨hP, hD, hS, hl, hst, hh, hdm, hn0, hρ⟩ := id I
  simp only [am_okb, am_okb1, Bool.and_eq_true, decide_eq_true_eq, and_true] at hok
  try simp only [am_lni] at hok
  obtain ⟨hd, rfl⟩ := hok
  simp only [am_s] at hs
  split at hs
  · cases hs
    exact lv_lor hx hb hd (am_kp I kk hl (am_ss.cn trivial hst.tl.tl))
  · cases hs
theorem am_st_irem (F : am_fix p R s mm args meth c m) (hA : ∀ q, s.heap.size ≤ q → A q) (hX : am_ext ρ0 L xs A s s.heap) (hK : va_K D am_cl (am_tys τ) s) (h6 : 6 ≤ n0) : am_STEP p l e R s mm args below meth c Q m D τ A L xs n0 ρ0 (.irem) := by
  intro H locs cells slots pc nx a b cc k lv ls ls' st st' h h' g pc' ρ lsC hok hkd hs hg I hcel hslo kk
  obtain ⟨hx, hb, hml, hown, hts, hfr, hlo, hin⟩ := F
  obtain ⟨hP, hD, hS, hl, hst, hh, hdm, hn0, hρ⟩ := id I
  simp only [am_okb, am_okb1, Bool.and_eq_true, decide_eq_true_eq, and_true] at hok
  try simp only [am_lni] at hok
  obtain ⟨hd, rfl⟩ := hok
  simp only [am_s] at hs
  split at hs
  · cases hs
    exact lv_irem hx hb hd hg (am_kp I kk hl (am_ss.cn trivial hst.tl.tl))
  · cases hs
theorem am_st_ldiv (F : am_fix p R s mm args meth c m) (hA : ∀ q, s.heap.size ≤ q → A q) (hX : am_ext ρ0 L xs A s s.heap) (hK : va_K D am_cl (am_tys τ) s) (h6 : 6 ≤ n0) : am_STEP p l e R s mm args below meth c Q m D τ A L xs n0 ρ0 (.ldiv) := by
  intro H locs cells slots pc nx a b cc k lv ls ls' st st' h h' g pc' ρ lsC hok hkd hs hg I hcel hslo kk
  obtain ⟨hx, hb, hml, hown, hts, hfr, hlo, hin⟩ := F
  obtain ⟨hP, hD, hS, hl, hst, hh, hdm, hn0, hρ⟩ := id I
  simp only [am_okb, am_okb1, Bool.and_eq_true, decide_eq_true_eq, and_true] at hok
  try simp only [am_lni] at hok
  obtain ⟨hd, rfl⟩ := hok
  simp only [am_s] at hs
  split at hs
  · cases hs
    exact lv_ldiv hx hb hd hg (am_kp I kk hl (am_ss.cn trivial hst.tl.tl))
  · cases hs
theorem am_st_lrem (F : am_fix p R s mm args meth c m) (hA : ∀ q, s.heap.size ≤ q → A q) (hX : am_ext ρ0 L xs A s s.heap) (hK : va_K D am_cl (am_tys τ) s) (h6 : 6 ≤ n0) : am_STEP p l e R s mm args below meth c Q m D τ A L xs n0 ρ0 (.lrem) := by
  intro H locs cells slots pc nx a b cc k lv ls ls' st st' h h' g pc' ρ lsC hok hkd hs hg I hcel hslo kk
  obtain ⟨hx, hb, hml, hown, hts, hfr, hlo, hin⟩ := F
  obtain ⟨hP, hD, hS, hl, hst, hh, hdm, hn0, hρ⟩ := id I
  simp only [am_okb, am_okb1, Bool.and_eq_true, decide_eq_true_eq, and_true] at hok
  try simp only [am_lni] at hok
  obtain ⟨hd, rfl⟩ := hok
  simp only [am_s] at hs
  split at hs
  · cases hs
    exact lv_lrem hx hb hd hg (am_kp I kk hl (am_ss.cn trivial hst.tl.tl))
  · cases hs
theorem am_st_lcmp (F : am_fix p R s mm args meth c m) (hA : ∀ q, s.heap.size ≤ q → A q) (hX : am_ext ρ0 L xs A s s.heap) (hK : va_K D am_cl (am_tys τ) s) (h6 : 6 ≤ n0) : am_STEP p l e R s mm args below meth c Q m D τ A L xs n0 ρ0 (.lcmp) := by
  intro H locs cells slots pc nx a b cc k lv ls ls' st st' h h' g pc' ρ lsC hok hkd hs hg I hcel hslo kk
  obtain ⟨hx, hb, hml, hown, hts, hfr, hlo, hin⟩ := F
  obtain ⟨hP, hD, hS, hl, hst, hh, hdm, hn0, hρ⟩ := id I
  simp only [am_okb, am_okb1, Bool.and_eq_true, decide_eq_true_eq, and_true] at hok
  try simp only [am_lni] at hok
  obtain ⟨hd, rfl⟩ := hok
  simp only [am_s] at hs
  split at hs
  · cases hs
    exact W.lcmp hx hb hd (am_kp I kk hl (am_ss.cn trivial hst.tl.tl))
  · cases hs
theorem am_st_lshl (F : am_fix p R s mm args meth c m) (hA : ∀ q, s.heap.size ≤ q → A q) (hX : am_ext ρ0 L xs A s s.heap) (hK : va_K D am_cl (am_tys τ) s) (h6 : 6 ≤ n0) : am_STEP p l e R s mm args below meth c Q m D τ A L xs n0 ρ0 (.lshl) := by
  intro H locs cells slots pc nx a b cc k lv ls ls' st st' h h' g pc' ρ lsC hok hkd hs hg I hcel hslo kk
  obtain ⟨hx, hb, hml, hown, hts, hfr, hlo, hin⟩ := F
  obtain ⟨hP, hD, hS, hl, hst, hh, hdm, hn0, hρ⟩ := id I
  simp only [am_okb, am_okb1, Bool.and_eq_true, decide_eq_true_eq, and_true] at hok
  try simp only [am_lni] at hok
  obtain ⟨hd, rfl⟩ := hok
  simp only [am_s] at hs
  split at hs
  · cases hs
    exact lv_lshl hx hb hd rfl (am_kp I kk hl (am_ss.cn trivial hst.tl.tl))
  · cases hs
theorem am_st_lshr (F : am_fix p R s mm args meth c m) (hA : ∀ q, s.heap.size ≤ q → A q) (hX : am_ext ρ0 L xs A s s.heap) (hK : va_K D am_cl (am_tys τ) s) (h6 : 6 ≤ n0) : am_STEP p l e R s mm args below meth c Q m D τ A L xs n0 ρ0 (.lshr) := by
  intro H locs cells slots pc nx a b cc k lv ls ls' st st' h h' g pc' ρ lsC hok hkd hs hg I hcel hslo kk
  obtain ⟨hx, hb, hml, hown, hts, hfr, hlo, hin⟩ := F
  obtain ⟨hP, hD, hS, hl, hst, hh, hdm, hn0, hρ⟩ := id I
  simp only [am_okb, am_okb1, Bool.and_eq_true, decide_eq_true_eq, and_true] at hok
  try simp only [am_lni] at hok
  obtain ⟨hd, rfl⟩ := hok
  simp only [am_s] at hs
  split at hs
  · cases hs
    exact lv_lshr hx hb hd rfl (am_kp I kk hl (am_ss.cn trivial hst.tl.tl))
  · cases hs
theorem am_st_lushr (F : am_fix p R s mm args meth c m) (hA : ∀ q, s.heap.size ≤ q → A q) (hX : am_ext ρ0 L xs A s s.heap) (hK : va_K D am_cl (am_tys τ) s) (h6 : 6 ≤ n0) : am_STEP p l e R s mm args below meth c Q m D τ A L xs n0 ρ0 (.lushr) := by
  intro H locs cells slots pc nx a b cc k lv ls ls' st st' h h' g pc' ρ lsC hok hkd hs hg I hcel hslo kk
  obtain ⟨hx, hb, hml, hown, hts, hfr, hlo, hin⟩ := F
  obtain ⟨hP, hD, hS, hl, hst, hh, hdm, hn0, hρ⟩ := id I
  simp only [am_okb, am_okb1, Bool.and_eq_true, decide_eq_true_eq, and_true] at hok
  try simp only [am_lni] at hok
  obtain ⟨hd, rfl⟩ := hok
  simp only [am_s] at hs
  split at hs
  · cases hs
    exact lv_lushr hx hb hd rfl (am_kp I kk hl (am_ss.cn trivial hst.tl.tl))
  · cases hs
theorem am_st_i2l (F : am_fix p R s mm args meth c m) (hA : ∀ q, s.heap.size ≤ q → A q) (hX : am_ext ρ0 L xs A s s.heap) (hK : va_K D am_cl (am_tys τ) s) (h6 : 6 ≤ n0) : am_STEP p l e R s mm args below meth c Q m D τ A L xs n0 ρ0 (.i2l) := by
  intro H locs cells slots pc nx a b cc k lv ls ls' st st' h h' g pc' ρ lsC hok hkd hs hg I hcel hslo kk
  obtain ⟨hx, hb, hml, hown, hts, hfr, hlo, hin⟩ := F
  obtain ⟨hP, hD, hS, hl, hst, hh, hdm, hn0, hρ⟩ := id I
  simp only [am_okb, am_okb1, Bool.and_eq_true, decide_eq_true_eq, and_true] at hok
  try simp only [am_lni] at hok
  obtain ⟨hd, rfl⟩ := hok
  simp only [am_s] at hs
  split at hs
  · cases hs
    exact lv_i2l hx hb hd rfl (am_kp I kk hl (am_ss.cn trivial hst.tl))
  · cases hs
theorem am_st_l2i (F : am_fix p R s mm args meth c m) (hA : ∀ q, s.heap.size ≤ q → A q) (hX : am_ext ρ0 L xs A s s.heap) (hK : va_K D am_cl (am_tys τ) s) (h6 : 6 ≤ n0) : am_STEP p l e R s mm args below meth c Q m D τ A L xs n0 ρ0 (.l2i) := by
  intro H locs cells slots pc nx a b cc k lv ls ls' st st' h h' g pc' ρ lsC hok hkd hs hg I hcel hslo kk
  obtain ⟨hx, hb, hml, hown, hts, hfr, hlo, hin⟩ := F
  obtain ⟨hP, hD, hS, hl, hst, hh, hdm, hn0, hρ⟩ := id I
  simp only [am_okb, am_okb1, Bool.and_eq_true, decide_eq_true_eq, and_true] at hok
  try simp only [am_lni] at hok
  obtain ⟨hd, rfl⟩ := hok
  simp only [am_s] at hs
  split at hs
  · cases hs
    exact lv_l2i hx hb hd rfl (am_kp I kk hl (am_ss.cn trivial hst.tl))
  · cases hs
theorem am_st_i2b (F : am_fix p R s mm args meth c m) (hA : ∀ q, s.heap.size ≤ q → A q) (hX : am_ext ρ0 L xs A s s.heap) (hK : va_K D am_cl (am_tys τ) s) (h6 : 6 ≤ n0) : am_STEP p l e R s mm args below meth c Q m D τ A L xs n0 ρ0 (.i2b) := by
  intro H locs cells slots pc nx a b cc k lv ls ls' st st' h h' g pc' ρ lsC hok hkd hs hg I hcel hslo kk
  obtain ⟨hx, hb, hml, hown, hts, hfr, hlo, hin⟩ := F
  obtain ⟨hP, hD, hS, hl, hst, hh, hdm, hn0, hρ⟩ := id I
  simp only [am_okb, am_okb1, Bool.and_eq_true, decide_eq_true_eq, and_true] at hok
  try simp only [am_lni] at hok
  obtain ⟨hd, rfl⟩ := hok
  simp only [am_s] at hs
  split at hs
  · cases hs
    exact lv_i2b hx hb hd rfl (am_kp I kk hl (am_ss.cn trivial hst.tl))
  · cases hs
theorem am_st_iload (F : am_fix p R s mm args meth c m) (hA : ∀ q, s.heap.size ≤ q → A q) (hX : am_ext ρ0 L xs A s s.heap) (hK : va_K D am_cl (am_tys τ) s) (h6 : 6 ≤ n0) {n : Nat} : am_STEP p l e R s mm args below meth c Q m D τ A L xs n0 ρ0 (.iload n) := by
  intro H locs cells slots pc nx a b cc k lv ls ls' st st' h h' g pc' ρ lsC hok hkd hs hg I hcel hslo kk
  obtain ⟨hx, hb, hml, hown, hts, hfr, hlo, hin⟩ := F
  obtain ⟨hP, hD, hS, hl, hst, hh, hdm, hn0, hρ⟩ := id I
  simp only [am_okb, am_okb1, Bool.and_eq_true, decide_eq_true_eq, and_true] at hok
  try simp only [am_lni] at hok
  obtain ⟨⟨hd, rfl⟩, rfl⟩ := hok
  simp only [am_s, am_ldi] at hs
  split at hs
  · rename_i x hx2
    cases hs
    exact lv_iload hx hb hd (hl.2.2 _ _ hx2).2 (am_kp I kk hl (am_ss.cn trivial hst))
  · cases hs
theorem am_st_iload_n (F : am_fix p R s mm args meth c m) (hA : ∀ q, s.heap.size ≤ q → A q) (hX : am_ext ρ0 L xs A s s.heap) (hK : va_K D am_cl (am_tys τ) s) (h6 : 6 ≤ n0) {n : Fin 4} : am_STEP p l e R s mm args below meth c Q m D τ A L xs n0 ρ0 (.iload_n n) := by
  intro H locs cells slots pc nx a b cc k lv ls ls' st st' h h' g pc' ρ lsC hok hkd hs hg I hcel hslo kk
  obtain ⟨hx, hb, hml, hown, hts, hfr, hlo, hin⟩ := F
  obtain ⟨hP, hD, hS, hl, hst, hh, hdm, hn0, hρ⟩ := id I
  simp only [am_okb, am_okb1, Bool.and_eq_true, decide_eq_true_eq, and_true] at hok
  try simp only [am_lni] at hok
  obtain ⟨⟨hd, rfl⟩, rfl⟩ := hok
  simp only [am_s, am_ldi] at hs
  split at hs
  · rename_i x hx2
    cases hs
    exact lv_iload_n hx hb hd rfl (hl.2.2 _ _ hx2).2 (am_kp I kk hl (am_ss.cn trivial hst))
  · cases hs
theorem am_st_lload (F : am_fix p R s mm args meth c m) (hA : ∀ q, s.heap.size ≤ q → A q) (hX : am_ext ρ0 L xs A s s.heap) (hK : va_K D am_cl (am_tys τ) s) (h6 : 6 ≤ n0) {n : Nat} : am_STEP p l e R s mm args below meth c Q m D τ A L xs n0 ρ0 (.lload n) := by
  intro H locs cells slots pc nx a b cc k lv ls ls' st st' h h' g pc' ρ lsC hok hkd hs hg I hcel hslo kk
  obtain ⟨hx, hb, hml, hown, hts, hfr, hlo, hin⟩ := F
  obtain ⟨hP, hD, hS, hl, hst, hh, hdm, hn0, hρ⟩ := id I
  simp only [am_okb, am_okb1, Bool.and_eq_true, decide_eq_true_eq, and_true] at hok
  try simp only [am_lni] at hok
  obtain ⟨⟨hd, rfl⟩, rfl⟩ := hok
  simp only [am_s, am_ldl] at hs
  split at hs
  · rename_i x hx2
    cases hs
    exact lv_lload hx hb hd (hl.2.2 _ _ hx2).2 (am_kp I kk hl (am_ss.cn trivial hst))
  · cases hs
theorem am_st_lload_n (F : am_fix p R s mm args meth c m) (hA : ∀ q, s.heap.size ≤ q → A q) (hX : am_ext ρ0 L xs A s s.heap) (hK : va_K D am_cl (am_tys τ) s) (h6 : 6 ≤ n0) {n : Fin 4} : am_STEP p l e R s mm args below meth c Q m D τ A L xs n0 ρ0 (.lload_n n) := by
  intro H locs cells slots pc nx a b cc k lv ls ls' st st' h h' g pc' ρ lsC hok hkd hs hg I hcel hslo kk
  obtain ⟨hx, hb, hml, hown, hts, hfr, hlo, hin⟩ := F
  obtain ⟨hP, hD, hS, hl, hst, hh, hdm, hn0, hρ⟩ := id I
  simp only [am_okb, am_okb1, Bool.and_eq_true, decide_eq_true_eq, and_true] at hok
  try simp only [am_lni] at hok
  obtain ⟨⟨hd, rfl⟩, rfl⟩ := hok
  simp only [am_s, am_ldl] at hs
  split at hs
  · rename_i x hx2
    cases hs
    exact lv_lload_n hx hb hd rfl (hl.2.2 _ _ hx2).2 (am_kp I kk hl (am_ss.cn trivial hst))
  · cases hs
theorem am_st_aload (F : am_fix p R s mm args meth c m) (hA : ∀ q, s.heap.size ≤ q → A q) (hX : am_ext ρ0 L xs A s s.heap) (hK : va_K D am_cl (am_tys τ) s) (h6 : 6 ≤ n0) {n : Nat} : am_STEP p l e R s mm args below meth c Q m D τ A L xs n0 ρ0 (.aload n) := by
  intro H locs cells slots pc nx a b cc k lv ls ls' st st' h h' g pc' ρ lsC hok hkd hs hg I hcel hslo kk
  obtain ⟨hx, hb, hml, hown, hts, hfr, hlo, hin⟩ := F
  obtain ⟨hP, hD, hS, hl, hst, hh, hdm, hn0, hρ⟩ := id I
  simp only [am_okb, am_okb1, Bool.and_eq_true, decide_eq_true_eq, and_true] at hok
  try simp only [am_lni] at hok
  obtain ⟨⟨hd, rfl⟩, rfl⟩ := hok
  simp only [am_s, am_lda] at hs
  split at hs
  · rename_i x hx2
    cases hs
    exact lv_aload hx hb hd (hl.2.2 _ _ hx2).2 (am_kp I kk hl (am_ss.cn (hl.2.2 _ _ hx2).1 hst))
  · rename_i hx2
    cases hs
    exact lv_aloadN hx hb hd (hl.2.2 _ _ hx2).2 (am_kp I kk hl (am_ss.cn trivial hst))
  · cases hs
theorem am_st_istore (F : am_fix p R s mm args meth c m) (hA : ∀ q, s.heap.size ≤ q → A q) (hX : am_ext ρ0 L xs A s s.heap) (hK : va_K D am_cl (am_tys τ) s) (h6 : 6 ≤ n0) {n : Nat} : am_STEP p l e R s mm args below meth c Q m D τ A L xs n0 ρ0 (.istore n) := by
  intro H locs cells slots pc nx a b cc k lv ls ls' st st' h h' g pc' ρ lsC hok hkd hs hg I hcel hslo kk
  obtain ⟨hx, hb, hml, hown, hts, hfr, hlo, hin⟩ := F
  obtain ⟨hP, hD, hS, hl, hst, hh, hdm, hn0, hρ⟩ := id I
  simp only [am_okb, am_okb1, Bool.and_eq_true, decide_eq_true_eq, and_true] at hok
  try simp only [am_lni] at hok
  obtain ⟨⟨hd, rfl⟩, rfl, hlt⟩ := hok
  simp only [am_s, am_sti] at hs
  split at hs
  · cases hs
    exact lv_istore hx hb hd hl.has hlt rfl (fun lsC' hl' => am_kp I kk (hl.s1 trivial hl') hst.tl)
  · cases hs
theorem am_st_lstore (F : am_fix p R s mm args meth c m) (hA : ∀ q, s.heap.size ≤ q → A q) (hX : am_ext ρ0 L xs A s s.heap) (hK : va_K D am_cl (am_tys τ) s) (h6 : 6 ≤ n0) {n : Nat} : am_STEP p l e R s mm args below meth c Q m D τ A L xs n0 ρ0 (.lstore n) := by
  intro H locs cells slots pc nx a b cc k lv ls ls' st st' h h' g pc' ρ lsC hok hkd hs hg I hcel hslo kk
  obtain ⟨hx, hb, hml, hown, hts, hfr, hlo, hin⟩ := F
  obtain ⟨hP, hD, hS, hl, hst, hh, hdm, hn0, hρ⟩ := id I
  simp only [am_okb, am_okb1, Bool.and_eq_true, decide_eq_true_eq, and_true] at hok
  try simp only [am_lni] at hok
  obtain ⟨⟨hd, rfl⟩, rfl, hlt⟩ := hok
  simp only [am_s, am_stl] at hs
  split at hs
  · cases hs
    exact lv_lstore hx hb hd hl.has hlt rfl (fun lsC' hl' => am_kp I kk (hl.s2 trivial hl') hst.tl)
  · cases hs
theorem am_st_astore (F : am_fix p R s mm args meth c m) (hA : ∀ q, s.heap.size ≤ q → A q) (hX : am_ext ρ0 L xs A s s.heap) (hK : va_K D am_cl (am_tys τ) s) (h6 : 6 ≤ n0) {n : Nat} : am_STEP p l e R s mm args below meth c Q m D τ A L xs n0 ρ0 (.astore n) := by
  intro H locs cells slots pc nx a b cc k lv ls ls' st st' h h' g pc' ρ lsC hok hkd hs hg I hcel hslo kk
  obtain ⟨hx, hb, hml, hown, hts, hfr, hlo, hin⟩ := F
  obtain ⟨hP, hD, hS, hl, hst, hh, hdm, hn0, hρ⟩ := id I
  simp only [am_okb, am_okb1, Bool.and_eq_true, decide_eq_true_eq, and_true] at hok
  try simp only [am_lni] at hok
  obtain ⟨⟨hd, rfl⟩, rfl, hlt⟩ := hok
  simp only [am_s, am_sta] at hs
  split at hs
  · rename_i x r
    cases hs
    exact lv_astore hx hb hd hl.has hlt rfl (fun lsC' hl' => am_kp I kk (hl.s1 (v := .ref x) hst.hd hl') hst.tl)
  · cases hs
    exact lv_astoreN hx hb hd hl.has hlt rfl (fun lsC' hl' => am_kp I kk (hl.s1 (v := .null) trivial hl') hst.tl)
  · cases hs
theorem am_st_aload_n (F : am_fix p R s mm args meth c m) (hA : ∀ q, s.heap.size ≤ q → A q) (hX : am_ext ρ0 L xs A s s.heap) (hK : va_K D am_cl (am_tys τ) s) (h6 : 6 ≤ n0) {n : Fin 4} : am_STEP p l e R s mm args below meth c Q m D τ A L xs n0 ρ0 (.aload_n n) := by
  intro H locs cells slots pc nx a b cc k lv ls ls' st st' h h' g pc' ρ lsC hok hkd hs hg I hcel hslo kk
  obtain ⟨hx, hb, hml, hown, hts, hfr, hlo, hin⟩ := F
  obtain ⟨hP, hD, hS, hl, hst, hh, hdm, hn0, hρ⟩ := id I
  simp only [am_okb, am_okb1, Bool.and_eq_true, decide_eq_true_eq, and_true] at hok
  try simp only [am_lni] at hok
  obtain ⟨⟨hd, rfl⟩, rfl⟩ := hok
  simp only [am_s, am_lda] at hs
  split at hs
  · rename_i x hx2
    cases hs
    exact lv_aload_n hx hb hd rfl (hl.2.2 _ _ hx2).2 (am_kp I kk hl (am_ss.cn (hl.2.2 _ _ hx2).1 hst))
  · rename_i hx2
    cases hs
    exact lv_aload_nN hx hb hd rfl (hl.2.2 _ _ hx2).2 (am_kp I kk hl (am_ss.cn trivial hst))
  · cases hs
theorem am_st_istore_n (F : am_fix p R s mm args meth c m) (hA : ∀ q, s.heap.size ≤ q → A q) (hX : am_ext ρ0 L xs A s s.heap) (hK : va_K D am_cl (am_tys τ) s) (h6 : 6 ≤ n0) {n : Fin 4} : am_STEP p l e R s mm args below meth c Q m D τ A L xs n0 ρ0 (.istore_n n) := by
  intro H locs cells slots pc nx a b cc k lv ls ls' st st' h h' g pc' ρ lsC hok hkd hs hg I hcel hslo kk
  obtain ⟨hx, hb, hml, hown, hts, hfr, hlo, hin⟩ := F
  obtain ⟨hP, hD, hS, hl, hst, hh, hdm, hn0, hρ⟩ := id I
  simp only [am_okb, am_okb1, Bool.and_eq_true, decide_eq_true_eq, and_true] at hok
  try simp only [am_lni] at hok
  obtain ⟨⟨hd, rfl⟩, rfl, hlt⟩ := hok
  simp only [am_s, am_sti] at hs
  split at hs
  · cases hs
    exact lv_istore_n hx hb hd rfl hl.has hlt rfl (fun lsC' hl' => am_kp I kk (hl.s1 trivial hl') hst.tl)
  · cases hs
theorem am_st_lstore_n (F : am_fix p R s mm args meth c m) (hA : ∀ q, s.heap.size ≤ q → A q) (hX : am_ext ρ0 L xs A s s.heap) (hK : va_K D am_cl (am_tys τ) s) (h6 : 6 ≤ n0) {n : Fin 4} : am_STEP p l e R s mm args below meth c Q m D τ A L xs n0 ρ0 (.lstore_n n) := by
  intro H locs cells slots pc nx a b cc k lv ls ls' st st' h h' g pc' ρ lsC hok hkd hs hg I hcel hslo kk
  obtain ⟨hx, hb, hml, hown, hts, hfr, hlo, hin⟩ := F
  obtain ⟨hP, hD, hS, hl, hst, hh, hdm, hn0, hρ⟩ := id I
  simp only [am_okb, am_okb1, Bool.and_eq_true, decide_eq_true_eq, and_true] at hok
  try simp only [am_lni] at hok
  obtain ⟨⟨hd, rfl⟩, rfl, hlt⟩ := hok
  simp only [am_s, am_stl] at hs
  split at hs
  · cases hs
    exact lv_lstore_n hx hb hd rfl hl.has hlt rfl (fun lsC' hl' => am_kp I kk (hl.s2 trivial hl') hst.tl)
  · cases hs
theorem am_st_astore_n (F : am_fix p R s mm args meth c m) (hA : ∀ q, s.heap.size ≤ q → A q) (hX : am_ext ρ0 L xs A s s.heap) (hK : va_K D am_cl (am_tys τ) s) (h6 : 6 ≤ n0) {n : Fin 4} : am_STEP p l e R s mm args below meth c Q m D τ A L xs n0 ρ0 (.astore_n n) := by
  intro H locs cells slots pc nx a b cc k lv ls ls' st st' h h' g pc' ρ lsC hok hkd hs hg I hcel hslo kk
  obtain ⟨hx, hb, hml, hown, hts, hfr, hlo, hin⟩ := F
  obtain ⟨hP, hD, hS, hl, hst, hh, hdm, hn0, hρ⟩ := id I
  simp only [am_okb, am_okb1, Bool.and_eq_true, decide_eq_true_eq, and_true] at hok
  try simp only [am_lni] at hok
  obtain ⟨⟨hd, rfl⟩, rfl, hlt⟩ := hok
  simp only [am_s, am_sta] at hs
  split at hs
  · rename_i x r
    cases hs
    exact lv_astore_n hx hb hd rfl hl.has hlt rfl (fun lsC' hl' => am_kp I kk (hl.s1 (v := .ref x) hst.hd hl') hst.tl)
  · cases hs
    exact lv_astore_nN hx hb hd rfl hl.has hlt rfl (fun lsC' hl' => am_kp I kk (hl.s1 (v := .null) trivial hl') hst.tl)
  · cases hs
theorem am_st_iinc (F : am_fix p R s mm args meth c m) (hA : ∀ q, s.heap.size ≤ q → A q) (hX : am_ext ρ0 L xs A s s.heap) (hK : va_K D am_cl (am_tys τ) s) (h6 : 6 ≤ n0) {n : Nat} {d : Int} : am_STEP p l e R s mm args below meth c Q m D τ A L xs n0 ρ0 (.iinc n d) := by
  intro H locs cells slots pc nx a b cc k lv ls ls' st st' h h' g pc' ρ lsC hok hkd hs hg I hcel hslo kk
  obtain ⟨hx, hb, hml, hown, hts, hfr, hlo, hin⟩ := F
  obtain ⟨hP, hD, hS, hl, hst, hh, hdm, hn0, hρ⟩ := id I
  simp only [am_okb, am_okb1, Bool.and_eq_true, decide_eq_true_eq, and_true] at hok
  try simp only [am_lni] at hok
  obtain ⟨⟨hd, rfl⟩, ⟨rfl, rfl⟩, hlt⟩ := hok
  simp only [am_s] at hs
  split at hs
  · rename_i x hx2
    cases hs
    have hm := am_ll_in (ρ := ρ) ls 0 n (.int x) hx2
    rw [Nat.zero_add] at hm
    obtain ⟨j, hj⟩ := List.getElem?_of_mem hm
    exact lv_iinc hx hb hd hl.has hj rfl hlt rfl (fun lsC' hl' => am_kp I kk (hl.s1 trivial hl') hst)
  · cases hs
theorem am_st_iconst (F : am_fix p R s mm args meth c m) (hA : ∀ q, s.heap.size ≤ q → A q) (hX : am_ext ρ0 L xs A s s.heap) (hK : va_K D am_cl (am_tys τ) s) (h6 : 6 ≤ n0) {n : Int} : am_STEP p l e R s mm args below meth c Q m D τ A L xs n0 ρ0 (.iconst n) := by
  intro H locs cells slots pc nx a b cc k lv ls ls' st st' h h' g pc' ρ lsC hok hkd hs hg I hcel hslo kk
  obtain ⟨hx, hb, hml, hown, hts, hfr, hlo, hin⟩ := F
  obtain ⟨hP, hD, hS, hl, hst, hh, hdm, hn0, hρ⟩ := id I
  simp only [am_okb, am_okb1, Bool.and_eq_true, decide_eq_true_eq, and_true] at hok
  try simp only [am_lni] at hok
  obtain ⟨⟨hd, rfl⟩, hv⟩ := hok
  simp only [am_s, am_cst] at hs
  cases hs
  exact lv_iconst hx hb hd hv (am_kp I kk hl (am_ss.cn trivial hst))
theorem am_st_bipush (F : am_fix p R s mm args meth c m) (hA : ∀ q, s.heap.size ≤ q → A q) (hX : am_ext ρ0 L xs A s s.heap) (hK : va_K D am_cl (am_tys τ) s) (h6 : 6 ≤ n0) {n : Int} : am_STEP p l e R s mm args below meth c Q m D τ A L xs n0 ρ0 (.bipush n) := by
  intro H locs cells slots pc nx a b cc k lv ls ls' st st' h h' g pc' ρ lsC hok hkd hs hg I hcel hslo kk
  obtain ⟨hx, hb, hml, hown, hts, hfr, hlo, hin⟩ := F
  obtain ⟨hP, hD, hS, hl, hst, hh, hdm, hn0, hρ⟩ := id I
  simp only [am_okb, am_okb1, Bool.and_eq_true, decide_eq_true_eq, and_true] at hok
  try simp only [am_lni] at hok
  obtain ⟨⟨hd, rfl⟩, hv⟩ := hok
  simp only [am_s, am_cst] at hs
  cases hs
  exact lv_bipush hx hb hd hv (am_kp I kk hl (am_ss.cn trivial hst))
theorem am_st_sipush (F : am_fix p R s mm args meth c m) (hA : ∀ q, s.heap.size ≤ q → A q) (hX : am_ext ρ0 L xs A s s.heap) (hK : va_K D am_cl (am_tys τ) s) (h6 : 6 ≤ n0) {n : Int} : am_STEP p l e R s mm args below meth c Q m D τ A L xs n0 ρ0 (.sipush n) := by
  intro H locs cells slots pc nx a b cc k lv ls ls' st st' h h' g pc' ρ lsC hok hkd hs hg I hcel hslo kk
  obtain ⟨hx, hb, hml, hown, hts, hfr, hlo, hin⟩ := F
  obtain ⟨hP, hD, hS, hl, hst, hh, hdm, hn0, hρ⟩ := id I
  simp only [am_okb, am_okb1, Bool.and_eq_true, decide_eq_true_eq, and_true] at hok
  try simp only [am_lni] at hok
  obtain ⟨⟨hd, rfl⟩, hv⟩ := hok
  simp only [am_s, am_cst] at hs
  cases hs
  exact lv_sipush hx hb hd hv (am_kp I kk hl (am_ss.cn trivial hst))
theorem am_st_lconst (F : am_fix p R s mm args meth c m) (hA : ∀ q, s.heap.size ≤ q → A q) (hX : am_ext ρ0 L xs A s s.heap) (hK : va_K D am_cl (am_tys τ) s) (h6 : 6 ≤ n0) {n : Fin 2} : am_STEP p l e R s mm args below meth c Q m D τ A L xs n0 ρ0 (.lconst n) := by
  intro H locs cells slots pc nx a b cc k lv ls ls' st st' h h' g pc' ρ lsC hok hkd hs hg I hcel hslo kk
  obtain ⟨hx, hb, hml, hown, hts, hfr, hlo, hin⟩ := F
  obtain ⟨hP, hD, hS, hl, hst, hh, hdm, hn0, hρ⟩ := id I
  simp only [am_okb, am_okb1, Bool.and_eq_true, decide_eq_true_eq, and_true] at hok
  try simp only [am_lni] at hok
  obtain ⟨⟨hd, rfl⟩, hv⟩ := hok
  simp only [am_s] at hs
  cases hs
  exact lv_lconst hx hb hd hv (am_kp I kk hl (am_ss.cn trivial hst))
theorem am_st_ldc2_w (F : am_fix p R s mm args meth c m) (hA : ∀ q, s.heap.size ≤ q → A q) (hX : am_ext ρ0 L xs A s s.heap) (hK : va_K D am_cl (am_tys τ) s) (h6 : 6 ≤ n0) {x : Nat} : am_STEP p l e R s mm args below meth c Q m D τ A L xs n0 ρ0 (.ldc2_w x) := by
  intro H locs cells slots pc nx a b cc k lv ls ls' st st' h h' g pc' ρ lsC hok hkd hs hg I hcel hslo kk
  obtain ⟨hx, hb, hml, hown, hts, hfr, hlo, hin⟩ := F
  obtain ⟨hP, hD, hS, hl, hst, hh, hdm, hn0, hρ⟩ := id I
  simp only [am_okb, am_okb1, Bool.and_eq_true, decide_eq_true_eq, and_true] at hok
  try simp only [am_lni] at hok
  obtain ⟨⟨hd, rfl⟩, hq⟩ := hok
  simp only [am_s] at hs
  cases hs
  exact lv_ldc2 hx hb hown (hts _ (am_KL_ok _ hq)) hd (am_kp I kk hl (am_ss.cn trivial hst))
theorem am_st_ldc (F : am_fix p R s mm args meth c m) (hA : ∀ q, s.heap.size ≤ q → A q) (hX : am_ext ρ0 L xs A s s.heap) (hK : va_K D am_cl (am_tys τ) s) (h6 : 6 ≤ n0) {x : Nat} : am_STEP p l e R s mm args below meth c Q m D τ A L xs n0 ρ0 (.ldc x) := by
  intro H locs cells slots pc nx a b cc k lv ls ls' st st' h h' g pc' ρ lsC hok hkd hs hg I hcel hslo kk
  obtain ⟨hx, hb, hml, hown, hts, hfr, hlo, hin⟩ := F
  obtain ⟨hP, hD, hS, hl, hst, hh, hdm, hn0, hρ⟩ := id I
  simp only [am_okb, am_okb1, Bool.and_eq_true, decide_eq_true_eq, and_true] at hok
  try simp only [am_lni] at hok
  obtain ⟨⟨hd, rfl⟩, hq⟩ := hok
  simp only [am_s] at hs
  cases b with
  | zero =>
    simp only [decide_eq_true_eq] at hq
    cases hs
    exact lv_ldc hx hb hown (hts _ (am_KI_ok _ hq)) hd (am_kp I kk hl (am_ss.cn trivial hst))
  | succ b =>
    simp only [decide_eq_true_eq, Bool.and_eq_true] at hq
    obtain ⟨rfl, hq⟩ := hq
    cases hs
    have e4 := hρ 4 (by omega)
    exact va_ldcM (mi := ρ 4) hx hb hown (hts _ (am_MI_ok _ hq)) (by rw [e4]; exact hX.2.2.2.1) hd (am_kp I kk hl (am_ss.cn (v := .ref 4) (Nat.lt_of_lt_of_le (by decide) hdm.1) hst))
theorem am_st_getstatic (F : am_fix p R s mm args meth c m) (hA : ∀ q, s.heap.size ≤ q → A q) (hX : am_ext ρ0 L xs A s s.heap) (hK : va_K D am_cl (am_tys τ) s) (h6 : 6 ≤ n0) {x : Nat} : am_STEP p l e R s mm args below meth c Q m D τ A L xs n0 ρ0 (.getstatic x) := by
  intro H locs cells slots pc nx a b cc k lv ls ls' st st' h h' g pc' ρ lsC hok hkd hs hg I hcel hslo kk
  obtain ⟨hx, hb, hml, hown, hts, hfr, hlo, hin⟩ := F
  obtain ⟨hP, hD, hS, hl, hst, hh, hdm, hn0, hρ⟩ := id I
  simp only [am_okb, am_okb1, Bool.and_eq_true, decide_eq_true_eq, and_true] at hok
  try simp only [am_lni] at hok
  obtain ⟨⟨hd, rfl⟩, hq⟩ := hok
  simp only [am_s] at hs
  cases hs
  obtain ⟨C, n, d, q1, q2⟩ := am_SL_ok _ hq
  have ha : a < 4 := am_xs_lt q1
  have e4 := hρ a (by omega)
  have hZ := hX.1 a C n d q1
  rw [← e4] at hZ
  exact va_gets hx hb hZ hS hown (hts _ q2) (fun _ q => q) hd (am_kp I kk hl (am_ss.cn (v := .ref a) (Nat.lt_of_lt_of_le (by omega) hdm.1) hst))
theorem am_st_dup (F : am_fix p R s mm args meth c m) (hA : ∀ q, s.heap.size ≤ q → A q) (hX : am_ext ρ0 L xs A s s.heap) (hK : va_K D am_cl (am_tys τ) s) (h6 : 6 ≤ n0) : am_STEP p l e R s mm args below meth c Q m D τ A L xs n0 ρ0 (.dup) := by
  intro H locs cells slots pc nx a b cc k lv ls ls' st st' h h' g pc' ρ lsC hok hkd hs hg I hcel hslo kk
  obtain ⟨hx, hb, hml, hown, hts, hfr, hlo, hin⟩ := F
  obtain ⟨hP, hD, hS, hl, hst, hh, hdm, hn0, hρ⟩ := id I
  simp only [am_okb, am_okb1, Bool.and_eq_true, decide_eq_true_eq, and_true] at hok
  try simp only [am_lni] at hok
  obtain ⟨hd, rfl⟩ := hok
  simp only [am_s] at hs
  split at hs
  · cases hs
    exact lv_dup hx hb hd rfl (am_kp I kk hl (am_ss.cn trivial hst))
  · cases hs
    exact lv_dup hx hb hd rfl (am_kp I kk hl (am_ss.cn hst.hd hst))
  · cases hs
theorem am_st_pop (F : am_fix p R s mm args meth c m) (hA : ∀ q, s.heap.size ≤ q → A q) (hX : am_ext ρ0 L xs A s s.heap) (hK : va_K D am_cl (am_tys τ) s) (h6 : 6 ≤ n0) : am_STEP p l e R s mm args below meth c Q m D τ A L xs n0 ρ0 (.pop) := by
  intro H locs cells slots pc nx a b cc k lv ls ls' st st' h h' g pc' ρ lsC hok hkd hs hg I hcel hslo kk
  obtain ⟨hx, hb, hml, hown, hts, hfr, hlo, hin⟩ := F
  obtain ⟨hP, hD, hS, hl, hst, hh, hdm, hn0, hρ⟩ := id I
  simp only [am_okb, am_okb1, Bool.and_eq_true, decide_eq_true_eq, and_true] at hok
  try simp only [am_lni] at hok
  obtain ⟨hd, rfl⟩ := hok
  simp only [am_s] at hs
  split at hs
  · cases hs
    exact lv_pop hx hb hd rfl (am_kp I kk hl hst.tl)
  · cases hs
    exact lv_pop hx hb hd rfl (am_kp I kk hl hst.tl)
  · cases hs
theorem am_st_dup_x1 (F : am_fix p R s mm args meth c m) (hA : ∀ q, s.heap.size ≤ q → A q) (hX : am_ext ρ0 L xs A s s.heap) (hK : va_K D am_cl (am_tys τ) s) (h6 : 6 ≤ n0) : am_STEP p l e R s mm args below meth c Q m D τ A L xs n0 ρ0 (.dup_x1) := by
  intro H locs cells slots pc nx a b cc k lv ls ls' st st' h h' g pc' ρ lsC hok hkd hs hg I hcel hslo kk
  obtain ⟨hx, hb, hml, hown, hts, hfr, hlo, hin⟩ := F
  obtain ⟨hP, hD, hS, hl, hst, hh, hdm, hn0, hρ⟩ := id I
  simp only [am_okb, am_okb1, Bool.and_eq_true, decide_eq_true_eq, and_true] at hok
  try simp only [am_lni] at hok
  obtain ⟨hd, rfl⟩ := hok
  simp only [am_s] at hs
  split at hs
  · cases hs
    exact lv_dup_x1 hx hb hd rfl rfl (am_kp I kk hl (am_ss.cn hst.hd (am_ss.cn hst.tl.hd (am_ss.cn hst.hd hst.tl.tl))))
  · cases hs
    exact lv_dup_x1 hx hb hd rfl rfl (am_kp I kk hl (am_ss.cn hst.hd (am_ss.cn hst.tl.hd (am_ss.cn hst.hd hst.tl.tl))))
  · cases hs
theorem am_st_dup2 (F : am_fix p R s mm args meth c m) (hA : ∀ q, s.heap.size ≤ q → A q) (hX : am_ext ρ0 L xs A s s.heap) (hK : va_K D am_cl (am_tys τ) s) (h6 : 6 ≤ n0) : am_STEP p l e R s mm args below meth c Q m D τ A L xs n0 ρ0 (.dup2) := by
  intro H locs cells slots pc nx a b cc k lv ls ls' st st' h h' g pc' ρ lsC hok hkd hs hg I hcel hslo kk
  obtain ⟨hx, hb, hml, hown, hts, hfr, hlo, hin⟩ := F
  obtain ⟨hP, hD, hS, hl, hst, hh, hdm, hn0, hρ⟩ := id I
  simp only [am_okb, am_okb1, Bool.and_eq_true, decide_eq_true_eq, and_true] at hok
  try simp only [am_lni] at hok
  obtain ⟨hd, rfl⟩ := hok
  simp only [am_s] at hs
  split at hs
  · cases hs
    exact lv_dup2_11 hx hb hd rfl rfl (am_kp I kk hl (am_ss.cn hst.hd (am_ss.cn hst.tl.hd hst)))
  · cases hs
    exact lv_dup2_2 hx hb hd rfl (am_kp I kk hl (am_ss.cn hst.hd hst))
  · cases hs
theorem am_st_aconst_null (F : am_fix p R s mm args meth c m) (hA : ∀ q, s.heap.size ≤ q → A q) (hX : am_ext ρ0 L xs A s s.heap) (hK : va_K D am_cl (am_tys τ) s) (h6 : 6 ≤ n0) : am_STEP p l e R s mm args below meth c Q m D τ A L xs n0 ρ0 (.aconst_null) := by
  intro H locs cells slots pc nx a b cc k lv ls ls' st st' h h' g pc' ρ lsC hok hkd hs hg I hcel hslo kk
  obtain ⟨hx, hb, hml, hown, hts, hfr, hlo, hin⟩ := F
  obtain ⟨hP, hD, hS, hl, hst, hh, hdm, hn0, hρ⟩ := id I
  simp only [am_okb, am_okb1, Bool.and_eq_true, decide_eq_true_eq, and_true] at hok
  try simp only [am_lni] at hok
  obtain ⟨hd, rfl⟩ := hok
  simp only [am_s] at hs
  cases hs
  exact lv_null hx hb hd (am_kp I kk hl (am_ss.cn trivial hst))
theorem am_st_goto (F : am_fix p R s mm args meth c m) (hA : ∀ q, s.heap.size ≤ q → A q) (hX : am_ext ρ0 L xs A s s.heap) (hK : va_K D am_cl (am_tys τ) s) (h6 : 6 ≤ n0) {d : Int} : am_STEP p l e R s mm args below meth c Q m D τ A L xs n0 ρ0 (.goto d) := by
  intro H locs cells slots pc nx a b cc k lv ls ls' st st' h h' g pc' ρ lsC hok hkd hs hg I hcel hslo kk
  obtain ⟨hx, hb, hml, hown, hts, hfr, hlo, hin⟩ := F
  obtain ⟨hP, hD, hS, hl, hst, hh, hdm, hn0, hρ⟩ := id I
  simp only [am_okb, am_okb1, Bool.and_eq_true, decide_eq_true_eq, and_true] at hok
  try simp only [am_lni] at hok
  obtain ⟨⟨hd, rfl⟩, ht⟩ := hok
  simp only [am_s] at hs
  cases hs
  exact lv_goto hx hb hd ht (am_kp I kk hl hst)
theorem am_st_icmp_eq (F : am_fix p R s mm args meth c m) (hA : ∀ q, s.heap.size ≤ q → A q) (hX : am_ext ρ0 L xs A s s.heap) (hK : va_K D am_cl (am_tys τ) s) (h6 : 6 ≤ n0) {d : Int} : am_STEP p l e R s mm args below meth c Q m D τ A L xs n0 ρ0 (.if_icmp .eq d) := by
  intro H locs cells slots pc nx a b cc k lv ls ls' st st' h h' g pc' ρ lsC hok hkd hs hg I hcel hslo kk
  obtain ⟨hx, hb, hml, hown, hts, hfr, hlo, hin⟩ := F
  obtain ⟨hP, hD, hS, hl, hst, hh, hdm, hn0, hρ⟩ := id I
  simp only [am_okb, am_okb1, Bool.and_eq_true, decide_eq_true_eq, and_true] at hok
  try simp only [am_lni] at hok
  obtain ⟨⟨hd, rfl⟩, ht⟩ := hok
  simp only [am_s, am_i2] at hs
  split at hs
  · cases hs
    refine lv_icmp_eq hx hb hd ht (fun hc => ?_) (fun hc => ?_)
    · rw [if_pos hc] at kk
      exact am_kp I kk hl hst.tl.tl
    · rw [if_neg (hc)] at kk
      exact am_kp I kk hl hst.tl.tl
  · cases hs
theorem am_st_if_eq (F : am_fix p R s mm args meth c m) (hA : ∀ q, s.heap.size ≤ q → A q) (hX : am_ext ρ0 L xs A s s.heap) (hK : va_K D am_cl (am_tys τ) s) (h6 : 6 ≤ n0) {d : Int} : am_STEP p l e R s mm args below meth c Q m D τ A L xs n0 ρ0 (.ifCond .eq d) := by
  intro H locs cells slots pc nx a b cc k lv ls ls' st st' h h' g pc' ρ lsC hok hkd hs hg I hcel hslo kk
  obtain ⟨hx, hb, hml, hown, hts, hfr, hlo, hin⟩ := F
  obtain ⟨hP, hD, hS, hl, hst, hh, hdm, hn0, hρ⟩ := id I
  simp only [am_okb, am_okb1, Bool.and_eq_true, decide_eq_true_eq, and_true] at hok
  try simp only [am_lni] at hok
  obtain ⟨⟨hd, rfl⟩, ht⟩ := hok
  simp only [am_s, am_i1] at hs
  split at hs
  · cases hs
    refine lv_if_eq hx hb hd ht (fun hc => ?_) (fun hc => ?_)
    · rw [if_pos hc] at kk
      exact am_kp I kk hl hst.tl
    · rw [if_neg (hc)] at kk
      exact am_kp I kk hl hst.tl
  · cases hs
theorem am_st_icmp_ne (F : am_fix p R s mm args meth c m) (hA : ∀ q, s.heap.size ≤ q → A q) (hX : am_ext ρ0 L xs A s s.heap) (hK : va_K D am_cl (am_tys τ) s) (h6 : 6 ≤ n0) {d : Int} : am_STEP p l e R s mm args below meth c Q m D τ A L xs n0 ρ0 (.if_icmp .ne d) := by
  intro H locs cells slots pc nx a b cc k lv ls ls' st st' h h' g pc' ρ lsC hok hkd hs hg I hcel hslo kk
  obtain ⟨hx, hb, hml, hown, hts, hfr, hlo, hin⟩ := F
  obtain ⟨hP, hD, hS, hl, hst, hh, hdm, hn0, hρ⟩ := id I
  simp only [am_okb, am_okb1, Bool.and_eq_true, decide_eq_true_eq, and_true] at hok
  try simp only [am_lni] at hok
  obtain ⟨⟨hd, rfl⟩, ht⟩ := hok
  simp only [am_s, am_i2] at hs
  split at hs
  · cases hs
    refine lv_icmp_ne hx hb hd ht (fun hc => ?_) (fun hc => ?_)
    · rw [if_pos hc] at kk
      exact am_kp I kk hl hst.tl.tl
    · rw [if_neg (fun q => q hc)] at kk
      exact am_kp I kk hl hst.tl.tl
  · cases hs
theorem am_st_if_ne (F : am_fix p R s mm args meth c m) (hA : ∀ q, s.heap.size ≤ q → A q) (hX : am_ext ρ0 L xs A s s.heap) (hK : va_K D am_cl (am_tys τ) s) (h6 : 6 ≤ n0) {d : Int} : am_STEP p l e R s mm args below meth c Q m D τ A L xs n0 ρ0 (.ifCond .ne d) := by
  intro H locs cells slots pc nx a b cc k lv ls ls' st st' h h' g pc' ρ lsC hok hkd hs hg I hcel hslo kk
  obtain ⟨hx, hb, hml, hown, hts, hfr, hlo, hin⟩ := F
  obtain ⟨hP, hD, hS, hl, hst, hh, hdm, hn0, hρ⟩ := id I
  simp only [am_okb, am_okb1, Bool.and_eq_true, decide_eq_true_eq, and_true] at hok
  try simp only [am_lni] at hok
  obtain ⟨⟨hd, rfl⟩, ht⟩ := hok
  simp only [am_s, am_i1] at hs
  split at hs
  · cases hs
    refine lv_if_ne hx hb hd ht (fun hc => ?_) (fun hc => ?_)
    · rw [if_pos hc] at kk
      exact am_kp I kk hl hst.tl
    · rw [if_neg (fun q => q hc)] at kk
      exact am_kp I kk hl hst.tl
  · cases hs
theorem am_st_icmp_lt (F : am_fix p R s mm args meth c m) (hA : ∀ q, s.heap.size ≤ q → A q) (hX : am_ext ρ0 L xs A s s.heap) (hK : va_K D am_cl (am_tys τ) s) (h6 : 6 ≤ n0) {d : Int} : am_STEP p l e R s mm args below meth c Q m D τ A L xs n0 ρ0 (.if_icmp .lt d) := by
  intro H locs cells slots pc nx a b cc k lv ls ls' st st' h h' g pc' ρ lsC hok hkd hs hg I hcel hslo kk
  obtain ⟨hx, hb, hml, hown, hts, hfr, hlo, hin⟩ := F
  obtain ⟨hP, hD, hS, hl, hst, hh, hdm, hn0, hρ⟩ := id I
  simp only [am_okb, am_okb1, Bool.and_eq_true, decide_eq_true_eq, and_true] at hok
  try simp only [am_lni] at hok
  obtain ⟨⟨hd, rfl⟩, ht⟩ := hok
  simp only [am_s, am_i2] at hs
  split at hs
  · cases hs
    refine lv_icmp_lt hx hb hd ht (fun hc => ?_) (fun hc => ?_)
    · rw [if_pos hc] at kk
      exact am_kp I kk hl hst.tl.tl
    · rw [if_neg (hc)] at kk
      exact am_kp I kk hl hst.tl.tl
  · cases hs
theorem am_st_if_lt (F : am_fix p R s mm args meth c m) (hA : ∀ q, s.heap.size ≤ q → A q) (hX : am_ext ρ0 L xs A s s.heap) (hK : va_K D am_cl (am_tys τ) s) (h6 : 6 ≤ n0) {d : Int} : am_STEP p l e R s mm args below meth c Q m D τ A L xs n0 ρ0 (.ifCond .lt d) := by
  intro H locs cells slots pc nx a b cc k lv ls ls' st st' h h' g pc' ρ lsC hok hkd hs hg I hcel hslo kk
  obtain ⟨hx, hb, hml, hown, hts, hfr, hlo, hin⟩ := F
  obtain ⟨hP, hD, hS, hl, hst, hh, hdm, hn0, hρ⟩ := id I
  simp only [am_okb, am_okb1, Bool.and_eq_true, decide_eq_true_eq, and_true] at hok
  try simp only [am_lni] at hok
  obtain ⟨⟨hd, rfl⟩, ht⟩ := hok
  simp only [am_s, am_i1] at hs
  split at hs
  · cases hs
    refine lv_if_lt hx hb hd ht (fun hc => ?_) (fun hc => ?_)
    · rw [if_pos hc] at kk
      exact am_kp I kk hl hst.tl
    · rw [if_neg (hc)] at kk
      exact am_kp I kk hl hst.tl
  · cases hs
theorem am_st_icmp_ge (F : am_fix p R s mm args meth c m) (hA : ∀ q, s.heap.size ≤ q → A q) (hX : am_ext ρ0 L xs A s s.heap) (hK : va_K D am_cl (am_tys τ) s) (h6 : 6 ≤ n0) {d : Int} : am_STEP p l e R s mm args below meth c Q m D τ A L xs n0 ρ0 (.if_icmp .ge d) := by
  intro H locs cells slots pc nx a b cc k lv ls ls' st st' h h' g pc' ρ lsC hok hkd hs hg I hcel hslo kk
  obtain ⟨hx, hb, hml, hown, hts, hfr, hlo, hin⟩ := F
  obtain ⟨hP, hD, hS, hl, hst, hh, hdm, hn0, hρ⟩ := id I
  simp only [am_okb, am_okb1, Bool.and_eq_true, decide_eq_true_eq, and_true] at hok
  try simp only [am_lni] at hok
  obtain ⟨⟨hd, rfl⟩, ht⟩ := hok
  simp only [am_s, am_i2] at hs
  split at hs
  · cases hs
    refine lv_icmp_ge hx hb hd ht (fun hc => ?_) (fun hc => ?_)
    · rw [if_pos hc] at kk
      exact am_kp I kk hl hst.tl.tl
    · rw [if_neg (hc)] at kk
      exact am_kp I kk hl hst.tl.tl
  · cases hs
theorem am_st_if_ge (F : am_fix p R s mm args meth c m) (hA : ∀ q, s.heap.size ≤ q → A q) (hX : am_ext ρ0 L xs A s s.heap) (hK : va_K D am_cl (am_tys τ) s) (h6 : 6 ≤ n0) {d : Int} : am_STEP p l e R s mm args below meth c Q m D τ A L xs n0 ρ0 (.ifCond .ge d) := by
  intro H locs cells slots pc nx a b cc k lv ls ls' st st' h h' g pc' ρ lsC hok hkd hs hg I hcel hslo kk
  obtain ⟨hx, hb, hml, hown, hts, hfr, hlo, hin⟩ := F
  obtain ⟨hP, hD, hS, hl, hst, hh, hdm, hn0, hρ⟩ := id I
  simp only [am_okb, am_okb1, Bool.and_eq_true, decide_eq_true_eq, and_true] at hok
  try simp only [am_lni] at hok
  obtain ⟨⟨hd, rfl⟩, ht⟩ := hok
  simp only [am_s, am_i1] at hs
  split at hs
  · cases hs
    refine lv_if_ge hx hb hd ht (fun hc => ?_) (fun hc => ?_)
    · rw [if_pos hc] at kk
      exact am_kp I kk hl hst.tl
    · rw [if_neg (hc)] at kk
      exact am_kp I kk hl hst.tl
  · cases hs
theorem am_st_icmp_gt (F : am_fix p R s mm args meth c m) (hA : ∀ q, s.heap.size ≤ q → A q) (hX : am_ext ρ0 L xs A s s.heap) (hK : va_K D am_cl (am_tys τ) s) (h6 : 6 ≤ n0) {d : Int} : am_STEP p l e R s mm args below meth c Q m D τ A L xs n0 ρ0 (.if_icmp .gt d) := by
  intro H locs cells slots pc nx a b cc k lv ls ls' st st' h h' g pc' ρ lsC hok hkd hs hg I hcel hslo kk
  obtain ⟨hx, hb, hml, hown, hts, hfr, hlo, hin⟩ := F
  obtain ⟨hP, hD, hS, hl, hst, hh, hdm, hn0, hρ⟩ := id I
  simp only [am_okb, am_okb1, Bool.and_eq_true, decide_eq_true_eq, and_true] at hok
  try simp only [am_lni] at hok
  obtain ⟨⟨hd, rfl⟩, ht⟩ := hok
  simp only [am_s, am_i2] at hs
  split at hs
  · cases hs
    refine lv_icmp_gt hx hb hd ht (fun hc => ?_) (fun hc => ?_)
    · rw [if_pos hc] at kk
      exact am_kp I kk hl hst.tl.tl
    · rw [if_neg (hc)] at kk
      exact am_kp I kk hl hst.tl.tl
  · cases hs
theorem am_st_if_gt (F : am_fix p R s mm args meth c m) (hA : ∀ q, s.heap.size ≤ q → A q) (hX : am_ext ρ0 L xs A s s.heap) (hK : va_K D am_cl (am_tys τ) s) (h6 : 6 ≤ n0) {d : Int} : am_STEP p l e R s mm args below meth c Q m D τ A L xs n0 ρ0 (.ifCond .gt d) := by
  intro H locs cells slots pc nx a b cc k lv ls ls' st st' h h' g pc' ρ lsC hok hkd hs hg I hcel hslo kk
  obtain ⟨hx, hb, hml, hown, hts, hfr, hlo, hin⟩ := F
  obtain ⟨hP, hD, hS, hl, hst, hh, hdm, hn0, hρ⟩ := id I
  simp only [am_okb, am_okb1, Bool.and_eq_true, decide_eq_true_eq, and_true] at hok
  try simp only [am_lni] at hok
  obtain ⟨⟨hd, rfl⟩, ht⟩ := hok
  simp only [am_s, am_i1] at hs
  split at hs
  · cases hs
    refine lv_if_gt hx hb hd ht (fun hc => ?_) (fun hc => ?_)
    · rw [if_pos hc] at kk
      exact am_kp I kk hl hst.tl
    · rw [if_neg (hc)] at kk
      exact am_kp I kk hl hst.tl
  · cases hs
theorem am_st_icmp_le (F : am_fix p R s mm args meth c m) (hA : ∀ q, s.heap.size ≤ q → A q) (hX : am_ext ρ0 L xs A s s.heap) (hK : va_K D am_cl (am_tys τ) s) (h6 : 6 ≤ n0) {d : Int} : am_STEP p l e R s mm args below meth c Q m D τ A L xs n0 ρ0 (.if_icmp .le d) := by
  intro H locs cells slots pc nx a b cc k lv ls ls' st st' h h' g pc' ρ lsC hok hkd hs hg I hcel hslo kk
  obtain ⟨hx, hb, hml, hown, hts, hfr, hlo, hin⟩ := F
  obtain ⟨hP, hD, hS, hl, hst, hh, hdm, hn0, hρ⟩ := id I
  simp only [am_okb, am_okb1, Bool.and_eq_true, decide_eq_true_eq, and_true] at hok
  try simp only [am_lni] at hok
  obtain ⟨⟨hd, rfl⟩, ht⟩ := hok
  simp only [am_s, am_i2] at hs
  split at hs
  · cases hs
    refine lv_icmp_le hx hb hd ht (fun hc => ?_) (fun hc => ?_)
    · rw [if_pos hc] at kk
      exact am_kp I kk hl hst.tl.tl
    · rw [if_neg (hc)] at kk
      exact am_kp I kk hl hst.tl.tl
  · cases hs
theorem am_st_if_le (F : am_fix p R s mm args meth c m) (hA : ∀ q, s.heap.size ≤ q → A q) (hX : am_ext ρ0 L xs A s s.heap) (hK : va_K D am_cl (am_tys τ) s) (h6 : 6 ≤ n0) {d : Int} : am_STEP p l e R s mm args below meth c Q m D τ A L xs n0 ρ0 (.ifCond .le d) := by
  intro H locs cells slots pc nx a b cc k lv ls ls' st st' h h' g pc' ρ lsC hok hkd hs hg I hcel hslo kk
  obtain ⟨hx, hb, hml, hown, hts, hfr, hlo, hin⟩ := F
  obtain ⟨hP, hD, hS, hl, hst, hh, hdm, hn0, hρ⟩ := id I
  simp only [am_okb, am_okb1, Bool.and_eq_true, decide_eq_true_eq, and_true] at hok
  try simp only [am_lni] at hok
  obtain ⟨⟨hd, rfl⟩, ht⟩ := hok
  simp only [am_s, am_i1] at hs
  split at hs
  · cases hs
    refine lv_if_le hx hb hd ht (fun hc => ?_) (fun hc => ?_)
    · rw [if_pos hc] at kk
      exact am_kp I kk hl hst.tl
    · rw [if_neg (hc)] at kk
      exact am_kp I kk hl hst.tl
  · cases hs
theorem am_st_acmp_eq (F : am_fix p R s mm args meth c m) (hA : ∀ q, s.heap.size ≤ q → A q) (hX : am_ext ρ0 L xs A s s.heap) (hK : va_K D am_cl (am_tys τ) s) (h6 : 6 ≤ n0) {d : Int} : am_STEP p l e R s mm args below meth c Q m D τ A L xs n0 ρ0 (.if_acmp .eq d) := by
  intro H locs cells slots pc nx a b cc k lv ls ls' st st' h h' g pc' ρ lsC hok hkd hs hg I hcel hslo kk
  obtain ⟨hx, hb, hml, hown, hts, hfr, hlo, hin⟩ := F
  obtain ⟨hP, hD, hS, hl, hst, hh, hdm, hn0, hρ⟩ := id I
  simp only [am_okb, am_okb1, Bool.and_eq_true, decide_eq_true_eq, and_true] at hok
  try simp only [am_lni] at hok
  obtain ⟨⟨hd, rfl⟩, ht⟩ := hok
  simp only [am_s, am_acmp] at hs
  split at hs
  · rename_i y x r
    cases hs
    have hinj : ρ x = ρ y → x = y := by
      rcases hg with e | ⟨x1, x2, y1, y2⟩
      · exact fun _ => e
      · intro e
        rw [hρ x (Nat.lt_of_le_of_lt x2 (by omega)), hρ y (Nat.lt_of_le_of_lt y2 (by omega))] at e
        exact hX.2.2.1 x y x1 x2 y1 y2 e
    refine lv_acmp_eq (rx := some (ρ x)) (ry := some (ρ y)) hx hb hd ht (fun hc => ?_) (fun hc => ?_)
    · have hc : x = y := hinj (Option.some.inj hc)
      rw [if_pos hc] at kk
      exact am_kp I kk hl hst.tl.tl
    · have hc : ¬ x = y := fun q => hc (by rw [q])
      rw [if_neg hc] at kk
      exact am_kp I kk hl hst.tl.tl
  · cases hs
theorem am_st_acmp_ne (F : am_fix p R s mm args meth c m) (hA : ∀ q, s.heap.size ≤ q → A q) (hX : am_ext ρ0 L xs A s s.heap) (hK : va_K D am_cl (am_tys τ) s) (h6 : 6 ≤ n0) {d : Int} : am_STEP p l e R s mm args below meth c Q m D τ A L xs n0 ρ0 (.if_acmp .ne d) := by
  intro H locs cells slots pc nx a b cc k lv ls ls' st st' h h' g pc' ρ lsC hok hkd hs hg I hcel hslo kk
  obtain ⟨hx, hb, hml, hown, hts, hfr, hlo, hin⟩ := F
  obtain ⟨hP, hD, hS, hl, hst, hh, hdm, hn0, hρ⟩ := id I
  simp only [am_okb, am_okb1, Bool.and_eq_true, decide_eq_true_eq, and_true] at hok
  try simp only [am_lni] at hok
  obtain ⟨⟨hd, rfl⟩, ht⟩ := hok
  simp only [am_s, am_acmp] at hs
  split at hs
  · rename_i y x r
    cases hs
    have hinj : ρ x = ρ y → x = y := by
      rcases hg with e | ⟨x1, x2, y1, y2⟩
      · exact fun _ => e
      · intro e
        rw [hρ x (Nat.lt_of_le_of_lt x2 (by omega)), hρ y (Nat.lt_of_le_of_lt y2 (by omega))] at e
        exact hX.2.2.1 x y x1 x2 y1 y2 e
    refine lv_acmp_ne (rx := some (ρ x)) (ry := some (ρ y)) hx hb hd ht (fun hc => ?_) (fun hc => ?_)
    · have hc : ¬ x = y := fun q => hc (by rw [q])
      rw [if_pos hc] at kk
      exact am_kp I kk hl hst.tl.tl
    · have hc : ¬ ¬ x = y := fun q => q (hinj (Option.some.inj hc))
      rw [if_neg hc] at kk
      exact am_kp I kk hl hst.tl.tl
  · cases hs
theorem am_st_ifnull (F : am_fix p R s mm args meth c m) (hA : ∀ q, s.heap.size ≤ q → A q) (hX : am_ext ρ0 L xs A s s.heap) (hK : va_K D am_cl (am_tys τ) s) (h6 : 6 ≤ n0) {d : Int} : am_STEP p l e R s mm args below meth c Q m D τ A L xs n0 ρ0 (.ifnull d) := by
  intro H locs cells slots pc nx a b cc k lv ls ls' st st' h h' g pc' ρ lsC hok hkd hs hg I hcel hslo kk
  obtain ⟨hx, hb, hml, hown, hts, hfr, hlo, hin⟩ := F
  obtain ⟨hP, hD, hS, hl, hst, hh, hdm, hn0, hρ⟩ := id I
  simp only [am_okb, am_okb1, Bool.and_eq_true, decide_eq_true_eq, and_true] at hok
  try simp only [am_lni] at hok
  obtain ⟨⟨hd, rfl⟩, ht⟩ := hok
  simp only [am_s] at hs
  split at hs
  · cases hs
    exact lv_ifnullN hx hb hd ht (am_kp I kk hl hst.tl)
  · cases hs
    exact lv_ifnull hx hb hd (am_kp I kk hl hst.tl)
  · cases hs
theorem am_st_ifnonnull (F : am_fix p R s mm args meth c m) (hA : ∀ q, s.heap.size ≤ q → A q) (hX : am_ext ρ0 L xs A s s.heap) (hK : va_K D am_cl (am_tys τ) s) (h6 : 6 ≤ n0) {d : Int} : am_STEP p l e R s mm args below meth c Q m D τ A L xs n0 ρ0 (.ifnonnull d) := by
  intro H locs cells slots pc nx a b cc k lv ls ls' st st' h h' g pc' ρ lsC hok hkd hs hg I hcel hslo kk
  obtain ⟨hx, hb, hml, hown, hts, hfr, hlo, hin⟩ := F
  obtain ⟨hP, hD, hS, hl, hst, hh, hdm, hn0, hρ⟩ := id I
  simp only [am_okb, am_okb1, Bool.and_eq_true, decide_eq_true_eq, and_true] at hok
  try simp only [am_lni] at hok
  obtain ⟨⟨hd, rfl⟩, ht⟩ := hok
  simp only [am_s] at hs
  split at hs
  · cases hs
    exact lv_ifnonnullN hx hb hd (am_kp I kk hl hst.tl)
  · cases hs
    exact lv_ifnonnull hx hb hd ht (am_kp I kk hl hst.tl)
  · cases hs
theorem am_st_tableswitch (F : am_fix p R s mm args meth c m) (hA : ∀ q, s.heap.size ≤ q → A q) (hX : am_ext ρ0 L xs A s s.heap) (hK : va_K D am_cl (am_tys τ) s) (h6 : 6 ≤ n0) {d lo hi : Int} {offs : Array Int} : am_STEP p l e R s mm args below meth c Q m D τ A L xs n0 ρ0 (.tableswitch d lo hi offs) := by
  intro H locs cells slots pc nx a b cc k lv ls ls' st st' h h' g pc' ρ lsC hok hkd hs hg I hcel hslo kk
  obtain ⟨hx, hb, hml, hown, hts, hfr, hlo, hin⟩ := F
  obtain ⟨hP, hD, hS, hl, hst, hh, hdm, hn0, hρ⟩ := id I
  simp only [am_okb, am_okb1, Bool.and_eq_true, decide_eq_true_eq, and_true] at hok
  try simp only [am_lni] at hok
  obtain ⟨⟨⟨hd, ht⟩, rfl⟩, hall⟩ := hok
  simp only [am_s] at hs
  split at hs
  · rename_i x r
    cases hs
    by_cases hc : x.toInt < lo ∨ hi < x.toInt
    · rw [if_pos hc] at kk
      exact lv_tableOut hx hb hd hc ht (am_kp I kk hl hst.tl)
    · rw [if_neg hc] at kk
      have h1 : ¬ x.toInt < lo := fun q => hc (Or.inl q)
      have h2 : ¬ hi < x.toInt := fun q => hc (Or.inr q)
      have hj := List.all_eq_true.mp hall (x.toInt - lo).toNat (List.mem_range.mpr (by omega))
      split at hj
      · rename_i off ho
        simp only [decide_eq_true_eq] at hj
        have e : offs.getD (x.toInt - lo).toNat 0 = off := by simp [Array.getD_eq_getD_getElem?, ho]
        rw [e] at kk
        exact lv_tableIn hx hb hd h1 h2 ho (by rw [Int.toNat_of_nonneg hj]) (am_kp I kk hl hst.tl)
      · cases hj
  · cases hs
theorem am_cA {U : State} {c1 c2 : ClassId} {ty : FieldType} (h1 : va_RA U c1 ty) (h2 : va_RA U c2 ty) : c1 = c2 := by
  cases ty with
  | object C =>
    obtain ⟨-, -, -, -, -, e1⟩ := h1
    obtain ⟨-, -, -, -, -, e2⟩ := h2
    exact Option.some.inj (e1.symm.trans e2)
  | _ =>
    have e1 : U.vm.findClass _ = some c1 := h1
    have e2 : U.vm.findClass _ = some c2 := h2
    exact Option.some.inj (e1.symm.trans e2)
theorem am_tc_up {t n k : Nat} {f : Nat → Option Nat} {o : Option Nat} : am_tc ρ τ (.inl (t, (n, .inr (.inr (.inr (.inr (va_up f k o))))))) = .inl (τ t, (n, .inr (.inr (.inr (.inr (va_up (fun i => (f i).map ρ) k (o.map ρ))))))) := by
  have e : (fun i => (va_up f k o i).map ρ) = va_up (fun i => (f i).map ρ) k (o.map ρ) := by
    funext i
    by_cases hi : i = k
    · subst hi; simp [va_up]
    · simp [va_up, hi]
  simp only [am_tc, e]
theorem am_sc_up {N t n k : Nat} {f : Nat → Option Nat} {o : Option Nat} (h : am_scc N (.inl (t, (n, .inr (.inr (.inr (.inr f))))))) (ho : ∀ v, o = some v → v < N) : am_scc N (.inl (t, (n, .inr (.inr (.inr (.inr (va_up f k o))))))) := by
  intro i v hv
  simp only [va_up] at hv
  split at hv
  · exact ho v hv
  · exact h i v hv
theorem am_tc_cpy {t n sp dp N : Nat} {f g : Nat → Option Nat} : am_tc ρ τ (.inl (t, (n, .inr (.inr (.inr (.inr (va_cpy f g sp dp N))))))) = .inl (τ t, (n, .inr (.inr (.inr (.inr (va_cpy (fun i => (f i).map ρ) (fun i => (g i).map ρ) sp dp N)))))) := by
  have e : (fun i => (va_cpy f g sp dp N i).map ρ) = va_cpy (fun i => (f i).map ρ) (fun i => (g i).map ρ) sp dp N := by
    funext i
    simp only [va_cpy]
    split <;> rfl
  simp only [am_tc, e]
theorem am_tc_set {ci k : Nat} {fs : List Value} {v : Value} : am_tc ρ τ (.inr (ci, am_set fs k v)) = .inr (ci, (fs.map (am_t ρ)).set k (am_t ρ v)) := by
  simp only [am_tc, am_set_eq, List.map_set]
theorem am_room_le {st : List Value} (h : am_room st = true) : ((st.map (am_t ρ)).map fun v => v.category).sum ≤ 8 := by
  have e : (st.map (am_t ρ)).map (fun v => v.category) = st.map fun v => v.category := by
    rw [List.map_map]
    exact List.map_congr_left fun v _ => am_t_cat ρ v
  rw [e]
  exact Nat.le_of_ble_eq_true h
theorem am_df_ok (ci : Nat) : ∀ v ∈ am_df ci, v = .int 0 ∨ v = .long 0 ∨ v = .null := by
  match ci with
  | 0 => decide
  | 1 => decide
  | 2 => decide
  | 3 => decide
  | 4 => decide
  | 5 => decide
  | 6 => decide
  | 7 => decide
  | 8 => decide
  | 9 => decide
  | n + 10 => intro v hv; simp [am_df, am_dfs, am_get] at hv
theorem am_df_sc (ci n : Nat) : ∀ v ∈ am_df ci, am_sc n v := by
  intro v hv
  rcases am_df_ok ci v hv with rfl | rfl | rfl <;> trivial
theorem am_df_t (ci : Nat) : (am_df ci).map (am_t ρ) = am_df ci := by
  have : ∀ v ∈ am_df ci, am_t ρ v = v := by
    intro v hv
    rcases am_df_ok ci v hv with rfl | rfl | rfl <;> rfl
  rw [List.map_congr_left this, List.map_id']
theorem am_cell_x {t n : Nat} {y : (Nat → Int32) ⊕ (Nat → Int64) ⊕ (Nat → UInt32) ⊕ (Nat → UInt64) ⊕ (Nat → Option Nat)} : ∃ y', am_tc ρ τ (.inl (t, (n, y))) = .inl (τ t, (n, y')) := by
  rcases y with f | f | f | f | f <;> exact ⟨_, rfl⟩
theorem am_tys_at {t : Nat} (h : t ≤ 5) : ∃ ty, (am_tys τ)[t]? = some (τ t, ty) := by
  match t, h with
  | 0, _ => exact ⟨_, rfl⟩
  | 1, _ => exact ⟨_, rfl⟩
  | 2, _ => exact ⟨_, rfl⟩
  | 3, _ => exact ⟨_, rfl⟩
  | 4, _ => exact ⟨_, rfl⟩
  | 5, _ => exact ⟨_, rfl⟩
theorem am_st_iaload (F : am_fix p R s mm args meth c m) (hA : ∀ q, s.heap.size ≤ q → A q) (hX : am_ext ρ0 L xs A s s.heap) (hK : va_K D am_cl (am_tys τ) s) (h6 : 6 ≤ n0) : am_STEP p l e R s mm args below meth c Q m D τ A L xs n0 ρ0 (.iaload) := by
  intro H locs cells slots pc nx a b cc k lv ls ls' st st' h h' g pc' ρ lsC hok hkd hs hg I hcel hslo kk
  obtain ⟨hx, hb, hml, hown, hts, hfr, hlo, hin⟩ := F
  obtain ⟨hP, hD, hS, hl, hst, hh, hdm, hn0, hρ⟩ := id I
  simp only [am_okb, am_okb1, Bool.and_eq_true, decide_eq_true_eq, and_true] at hok
  try simp only [am_lni] at hok
  obtain ⟨hd, rfl⟩ := hok
  simp only [am_s, am_ald] at hs
  split at hs
  · rename_i i r st2
    split at hs
    · rename_i t n f hget
      split at hs
      · rename_i ht
        cases hs
        have t0 : t = 0 := by simpa using ht
        subst t0
        by_cases hr : 6 ≤ r
        · exact va_iald hx hb hK hP (r - 6) 0 (am_w_get hr hget) rfl hg hd (am_kp I kk hl (am_ss.cn trivial hst.tl.tl))
        · rcases hdm.low (Nat.not_le.mp hr) hget with ⟨-, e⟩ | ⟨-, -, e⟩ | ⟨rfl, e⟩
          · cases e
          · cases e
          · cases e
            have e5 := hρ 5 (by omega)
            obtain ⟨x1, x2, x3⟩ := hX.2.2.2.2.1
            rw [← e5] at x1 x2 x3
            exact va_sld hx hb x1 x2 x3 hS hg hd (am_kp I kk hl (am_ss.cn trivial hst.tl.tl))
      · cases hs
    · cases hs
  · cases hs
theorem am_st_baload (F : am_fix p R s mm args meth c m) (hA : ∀ q, s.heap.size ≤ q → A q) (hX : am_ext ρ0 L xs A s s.heap) (hK : va_K D am_cl (am_tys τ) s) (h6 : 6 ≤ n0) : am_STEP p l e R s mm args below meth c Q m D τ A L xs n0 ρ0 (.baload) := by
  intro H locs cells slots pc nx a b cc k lv ls ls' st st' h h' g pc' ρ lsC hok hkd hs hg I hcel hslo kk
  obtain ⟨hx, hb, hml, hown, hts, hfr, hlo, hin⟩ := F
  obtain ⟨hP, hD, hS, hl, hst, hh, hdm, hn0, hρ⟩ := id I
  simp only [am_okb, am_okb1, Bool.and_eq_true, decide_eq_true_eq, and_true] at hok
  try simp only [am_lni] at hok
  obtain ⟨hd, rfl⟩ := hok
  simp only [am_s, am_ald] at hs
  split at hs
  · rename_i i r st2
    split at hs
    · rename_i t n f hget
      split at hs
      · rename_i ht
        cases hs
        have t0 : t = 1 ∨ t = 2 := by simpa using ht
        by_cases hr : 6 ≤ r
        · rcases t0 with rfl | rfl
          · exact va_bald hx hb hK hP (r - 6) 1 (am_w_get hr hget) rfl hg hd (am_kp I kk hl (am_ss.cn trivial hst.tl.tl))
          · exact va_zald hx hb hK hP (r - 6) 2 (am_w_get hr hget) rfl hg hd (am_kp I kk hl (am_ss.cn trivial hst.tl.tl))
        · rcases t0 with rfl | rfl <;> rcases hdm.low (Nat.not_le.mp hr) hget with ⟨-, e⟩ | ⟨-, -, e⟩ | ⟨-, e⟩ <;> cases e
      · cases hs
    · cases hs
  · cases hs
theorem am_st_laload (F : am_fix p R s mm args meth c m) (hA : ∀ q, s.heap.size ≤ q → A q) (hX : am_ext ρ0 L xs A s s.heap) (hK : va_K D am_cl (am_tys τ) s) (h6 : 6 ≤ n0) : am_STEP p l e R s mm args below meth c Q m D τ A L xs n0 ρ0 (.laload) := by
  intro H locs cells slots pc nx a b cc k lv ls ls' st st' h h' g pc' ρ lsC hok hkd hs hg I hcel hslo kk
  obtain ⟨hx, hb, hml, hown, hts, hfr, hlo, hin⟩ := F
  obtain ⟨hP, hD, hS, hl, hst, hh, hdm, hn0, hρ⟩ := id I
  simp only [am_okb, am_okb1, Bool.and_eq_true, decide_eq_true_eq, and_true] at hok
  try simp only [am_lni] at hok
  obtain ⟨hd, rfl⟩ := hok
  simp only [am_s, am_lald] at hs
  split at hs
  · rename_i i r st2
    split at hs
    · rename_i t n f hget
      split at hs
      · rename_i ht
        cases hs
        have t0 : t = 3 := by simpa using ht
        subst t0
        by_cases hr : 6 ≤ r
        · exact va_lald hx hb hK hP (r - 6) 3 (am_w_get hr hget) rfl hg hd (am_kp I kk hl (am_ss.cn trivial hst.tl.tl))
        · rcases hdm.low (Nat.not_le.mp hr) hget with ⟨-, e⟩ | ⟨-, -, e⟩ | ⟨-, e⟩ <;> cases e
      · cases hs
    · cases hs
  · cases hs
theorem am_st_aaload (F : am_fix p R s mm args meth c m) (hA : ∀ q, s.heap.size ≤ q → A q) (hX : am_ext ρ0 L xs A s s.heap) (hK : va_K D am_cl (am_tys τ) s) (h6 : 6 ≤ n0) : am_STEP p l e R s mm args below meth c Q m D τ A L xs n0 ρ0 (.aaload) := by
  intro H locs cells slots pc nx a b cc k lv ls ls' st st' h h' g pc' ρ lsC hok hkd hs hg I hcel hslo kk
  obtain ⟨hx, hb, hml, hown, hts, hfr, hlo, hin⟩ := F
  obtain ⟨hP, hD, hS, hl, hst, hh, hdm, hn0, hρ⟩ := id I
  simp only [am_okb, am_okb1, Bool.and_eq_true, decide_eq_true_eq, and_true] at hok
  try simp only [am_lni] at hok
  obtain ⟨hd, rfl⟩ := hok
  simp only [am_s, am_aald] at hs
  split at hs
  · rename_i i r st2
    split at hs
    · rename_i t n f hget
      split at hs
      · rename_i ht
        cases hs
        have t0 : 6 ≤ r ∧ (t = 4 ∨ t = 5) := by simpa [Nat.ble_eq] using ht
        obtain ⟨hr, t0⟩ := t0
        have := am_kp I kk hl (am_ss.cn (am_rf_sc (hh _ (am_mem_get hget)) _) hst.tl.tl)
        rw [List.map_cons, am_t_rf] at this
        rcases t0 with rfl | rfl
        · exact va_aldq hx hb hK hP (r - 6) 4 (am_w_get hr hget) rfl hg hd this
        · exact va_aldq hx hb hK hP (r - 6) 5 (am_w_get hr hget) rfl hg hd this
      · cases hs
    · cases hs
  · cases hs
theorem am_st_iastore (F : am_fix p R s mm args meth c m) (hA : ∀ q, s.heap.size ≤ q → A q) (hX : am_ext ρ0 L xs A s s.heap) (hK : va_K D am_cl (am_tys τ) s) (h6 : 6 ≤ n0) : am_STEP p l e R s mm args below meth c Q m D τ A L xs n0 ρ0 (.iastore) := by
  intro H locs cells slots pc nx a b cc k lv ls ls' st st' h h' g pc' ρ lsC hok hkd hs hg I hcel hslo kk
  obtain ⟨hx, hb, hml, hown, hts, hfr, hlo, hin⟩ := F
  obtain ⟨hP, hD, hS, hl, hst, hh, hdm, hn0, hρ⟩ := id I
  simp only [am_okb, am_okb1, Bool.and_eq_true, decide_eq_true_eq, and_true] at hok
  try simp only [am_lni] at hok
  obtain ⟨hd, rfl⟩ := hok
  simp only [am_s, am_iast] at hs
  split at hs
  · rename_i x i r st2
    split at hs
    · rename_i t n f hget
      split at hs
      · rename_i ht
        cases hs
        have t0 : t = 0 ∧ 6 ≤ r := by simpa [Nat.ble_eq] using ht
        obtain ⟨rfl, hr⟩ := t0
        exact va_iast hx hb hK hP hD hS (r - 6) 0 (am_w_get hr hget) rfl hg hd (fun H1 locs1 q1 q2 q3 => am_ks I hr hget kk rfl trivial hst.tl.tl.tl q1 q2 q3)
      · cases hs
    · cases hs
  · cases hs
theorem am_st_bastore (F : am_fix p R s mm args meth c m) (hA : ∀ q, s.heap.size ≤ q → A q) (hX : am_ext ρ0 L xs A s s.heap) (hK : va_K D am_cl (am_tys τ) s) (h6 : 6 ≤ n0) : am_STEP p l e R s mm args below meth c Q m D τ A L xs n0 ρ0 (.bastore) := by
  intro H locs cells slots pc nx a b cc k lv ls ls' st st' h h' g pc' ρ lsC hok hkd hs hg I hcel hslo kk
  obtain ⟨hx, hb, hml, hown, hts, hfr, hlo, hin⟩ := F
  obtain ⟨hP, hD, hS, hl, hst, hh, hdm, hn0, hρ⟩ := id I
  simp only [am_okb, am_okb1, Bool.and_eq_true, decide_eq_true_eq, and_true] at hok
  try simp only [am_lni] at hok
  obtain ⟨hd, rfl⟩ := hok
  simp only [am_s, am_bast] at hs
  split at hs
  · rename_i x i r st2
    split at hs
    · rename_i t n f hget
      split at hs
      · cases hs
        have hr : 6 ≤ r := by
          rcases Nat.lt_or_ge r 6 with hr | hr
          · rcases hdm.low hr hget with ⟨-, e⟩ | ⟨-, -, e⟩ | ⟨-, e⟩ <;> cases e
          · exact hr
        exact va_bast hx hb hK hP hD hS (r - 6) 1 (am_w_get hr hget) rfl hg hd (fun H1 locs1 q1 q2 q3 => am_ks I hr hget kk rfl trivial hst.tl.tl.tl q1 q2 q3)
      · cases hs
        have hr : 6 ≤ r := by
          rcases Nat.lt_or_ge r 6 with hr | hr
          · rcases hdm.low hr hget with ⟨-, e⟩ | ⟨-, -, e⟩ | ⟨-, e⟩ <;> cases e
          · exact hr
        exact va_zast hx hb hK hP hD hS (r - 6) 2 (am_w_get hr hget) rfl hg hd (fun H1 locs1 q1 q2 q3 => am_ks I hr hget kk rfl trivial hst.tl.tl.tl q1 q2 q3)
      · cases hs
    · cases hs
  · cases hs
theorem am_st_lastore (F : am_fix p R s mm args meth c m) (hA : ∀ q, s.heap.size ≤ q → A q) (hX : am_ext ρ0 L xs A s s.heap) (hK : va_K D am_cl (am_tys τ) s) (h6 : 6 ≤ n0) : am_STEP p l e R s mm args below meth c Q m D τ A L xs n0 ρ0 (.lastore) := by
  intro H locs cells slots pc nx a b cc k lv ls ls' st st' h h' g pc' ρ lsC hok hkd hs hg I hcel hslo kk
  obtain ⟨hx, hb, hml, hown, hts, hfr, hlo, hin⟩ := F
  obtain ⟨hP, hD, hS, hl, hst, hh, hdm, hn0, hρ⟩ := id I
  simp only [am_okb, am_okb1, Bool.and_eq_true, decide_eq_true_eq, and_true] at hok
  try simp only [am_lni] at hok
  obtain ⟨hd, rfl⟩ := hok
  simp only [am_s, am_last] at hs
  split at hs
  · rename_i x i r st2
    split at hs
    · rename_i t n f hget
      split at hs
      · rename_i ht
        cases hs
        have t0 : t = 3 := by simpa using ht
        subst t0
        have hr : 6 ≤ r := by
          rcases Nat.lt_or_ge r 6 with hr | hr
          · rcases hdm.low hr hget with ⟨-, e⟩ | ⟨-, -, e⟩ | ⟨-, e⟩ <;> cases e
          · exact hr
        exact va_last hx hb hK hP hD hS (r - 6) 3 (am_w_get hr hget) rfl hg hd (fun H1 locs1 q1 q2 q3 => am_ks I hr hget kk rfl trivial hst.tl.tl.tl q1 q2 q3)
      · cases hs
    · cases hs
  · cases hs
theorem am_st_aastore (F : am_fix p R s mm args meth c m) (hA : ∀ q, s.heap.size ≤ q → A q) (hX : am_ext ρ0 L xs A s s.heap) (hK : va_K D am_cl (am_tys τ) s) (h6 : 6 ≤ n0) : am_STEP p l e R s mm args below meth c Q m D τ A L xs n0 ρ0 (.aastore) := by
  intro H locs cells slots pc nx a b cc k lv ls ls' st st' h h' g pc' ρ lsC hok hkd hs hg I hcel hslo kk
  obtain ⟨hx, hb, hml, hown, hts, hfr, hlo, hin⟩ := F
  obtain ⟨hP, hD, hS, hl, hst, hh, hdm, hn0, hρ⟩ := id I
  simp only [am_okb, am_okb1, Bool.and_eq_true, decide_eq_true_eq, and_true] at hok
  try simp only [am_lni] at hok
  obtain ⟨hd, rfl⟩ := hok
  simp only [am_s, am_aast] at hs
  split at hs
  · rename_i v i r st2
    split at hs
    · rename_i t n f hget
      split at hs
      · rename_i ci fs hgv
        split at hs
        · rename_i ht
          cases hs
          have t0 : ((t = 4 ∧ ci = 9) ∨ (t = 5 ∧ ci = 2)) ∧ 6 ≤ r ∧ 6 ≤ v := by simpa [Nat.ble_eq, am_cast, and_assoc] using ht
          obtain ⟨t0, hr, hv⟩ := t0
          have hsc := am_sc_up (k := i.toNatClampNeg) (o := some v) (hh _ (am_mem_get hget)) (fun w hw => by cases hw; exact hst.hd)
          have hev := am_w_get (ρ := ρ) (τ := τ) hv hgv
          rcases t0 with ⟨rfl, rfl⟩ | ⟨rfl, rfl⟩
          · exact va_astqM hx hb hK hP hD hS (r - 6) 4 (am_w_get hr hget) rfl (va_rAny (r := ("TextIndices$Part", F_Pa, 5)) hK hP hev rfl (vb_asgC (hX.2.2.2.2.2.1 _ (by simp [am_NW])))) hg hd (fun H1 locs1 q1 q2 q3 => am_ks I hr hget kk rfl hsc hst.tl.tl.tl (by rw [am_tc_up]; exact q1) (by rw [am_tc_up]; exact q2) q3)
          · exact va_astq (r := ("TextIndices$Language", F_La, 6)) hx hb hK hP hD hS (r - 6) 5 (v - 6) 2 (am_w_get hr hget) rfl hev rfl hg hd (fun H1 locs1 q1 q2 q3 => am_ks I hr hget kk rfl hsc hst.tl.tl.tl (by rw [am_tc_up]; exact q1) (by rw [am_tc_up]; exact q2) q3)
        · cases hs
      · cases hs
    · cases hs
  · rename_i i r st2
    split at hs
    · rename_i t n f hget
      split at hs
      · rename_i ht
        cases hs
        have t0 : 6 ≤ r ∧ (t = 4 ∨ t = 5) := by simpa [Nat.ble_eq] using ht
        obtain ⟨hr, t0⟩ := t0
        have hsc := am_sc_up (k := i.toNatClampNeg) (o := none) (hh _ (am_mem_get hget)) (fun w hw => by cases hw)
        rcases t0 with rfl | rfl
        · exact va_astqN hx hb hK hP hD hS (r - 6) 4 (am_w_get hr hget) rfl hg hd (fun H1 locs1 q1 q2 q3 => am_ks I hr hget kk rfl hsc hst.tl.tl.tl (by rw [am_tc_up]; exact q1) (by rw [am_tc_up]; exact q2) q3)
        · exact va_astqN hx hb hK hP hD hS (r - 6) 5 (am_w_get hr hget) rfl hg hd (fun H1 locs1 q1 q2 q3 => am_ks I hr hget kk rfl hsc hst.tl.tl.tl (by rw [am_tc_up]; exact q1) (by rw [am_tc_up]; exact q2) q3)
      · cases hs
    · cases hs
  · cases hs
theorem am_st_arraylength (F : am_fix p R s mm args meth c m) (hA : ∀ q, s.heap.size ≤ q → A q) (hX : am_ext ρ0 L xs A s s.heap) (hK : va_K D am_cl (am_tys τ) s) (h6 : 6 ≤ n0) : am_STEP p l e R s mm args below meth c Q m D τ A L xs n0 ρ0 (.arraylength) := by
  intro H locs cells slots pc nx a b cc k lv ls ls' st st' h h' g pc' ρ lsC hok hkd hs hg I hcel hslo kk
  obtain ⟨hx, hb, hml, hown, hts, hfr, hlo, hin⟩ := F
  obtain ⟨hP, hD, hS, hl, hst, hh, hdm, hn0, hρ⟩ := id I
  simp only [am_okb, am_okb1, Bool.and_eq_true, decide_eq_true_eq, and_true] at hok
  try simp only [am_lni] at hok
  obtain ⟨hd, rfl⟩ := hok
  simp only [am_s, am_alen] at hs
  split at hs
  · rename_i r st2
    split at hs
    · rename_i t n y hget
      split at hs
      · rename_i ht
        cases hs
        have t5 : t ≤ 5 := Nat.le_of_ble_eq_true ht
        by_cases hr : 6 ≤ r
        · obtain ⟨ty, hty⟩ := am_tys_at (τ := τ) t5
          obtain ⟨y', hy'⟩ := am_cell_x (ρ := ρ) (τ := τ) (t := t) (n := n) (y := y)
          have he := am_w_get (ρ := ρ) (τ := τ) hr hget
          rw [hy'] at he
          exact va_alen hx hb hK hP (r - 6) t he hty rfl hd (am_kp I kk hl (am_ss.cn trivial hst.tl))
        · rcases hdm.low (Nat.not_le.mp hr) hget with ⟨rfl, e⟩ | ⟨-, -, e⟩ | ⟨rfl, e⟩
          · cases e
            have e0 := hρ 0 (by omega)
            obtain ⟨f, hT⟩ := hX.2.1
            rw [← e0] at hT
            exact va_tlen hx hb hT hS rfl hd (am_kp I kk hl (am_ss.cn trivial hst.tl))
          · cases e
          · cases e
            have e5 := hρ 5 (by omega)
            obtain ⟨x1, x2, x3⟩ := hX.2.2.2.2.1
            rw [← e5] at x1 x2 x3
            exact va_slen hx hb x1 x2 x3 hS hd (am_kp I kk hl (am_ss.cn trivial hst.tl))
      · cases hs
    · cases hs
  · cases hs
theorem am_st_newa_int (F : am_fix p R s mm args meth c m) (hA : ∀ q, s.heap.size ≤ q → A q) (hX : am_ext ρ0 L xs A s s.heap) (hK : va_K D am_cl (am_tys τ) s) (h6 : 6 ≤ n0) : am_STEP p l e R s mm args below meth c Q m D τ A L xs n0 ρ0 (.newarray .int) := by
  intro H locs cells slots pc nx a b cc k lv ls ls' st st' h h' g pc' ρ lsC hok hkd hs hg I hcel hslo kk
  obtain ⟨hx, hb, hml, hown, hts, hfr, hlo, hin⟩ := F
  obtain ⟨hP, hD, hS, hl, hst, hh, hdm, hn0, hρ⟩ := id I
  simp only [am_okb, am_okb1, Bool.and_eq_true, decide_eq_true_eq, and_true] at hok
  try simp only [am_lni] at hok
  obtain ⟨⟨hd, rfl⟩, ht, -⟩ := hok
  have ht : a = 0 := ht.symm
  subst ht
  simp only [am_s, am_newa] at hs
  split at hs
  · rename_i n st2
    cases hs
    have e1 : (h ++ [am_zero 0 n.toNatClampNeg]).length - h.length = 1 := by simp
    have e2 : am_sz (h ++ [am_zero 0 n.toNatClampNeg]) - am_sz h = n.toNatClampNeg := by rw [am_sz_push]; show _ + n.toNatClampNeg - _ = _; omega
    rw [e1] at hcel
    rw [e2] at hslo
    refine va_newa (atype := .int) (a0 := (n.toNatClampNeg, .inl fun _ => 0)) hx hb (hts _ am_ac_int) rfl hK hP hD hS hA (fun _ => rfl) hg.1 rfl (by show _ * 4 ≤ _; have := hg.2; omega) hcel hslo hd (fun q cA H1 hK1 hP1 hD1 hS1 => ?_)
    have hc : cA = τ 0 := am_cA (hK1.2 6 (cA, _) rfl).2 (hK.2 0 (τ 0, _) rfl).2
    subst hc
    exact am_kn (c1 := am_zero 0 n.toNatClampNeg) I trivial kk hst.tl rfl hP1 hD1 hS1
  · cases hs
theorem am_st_newa_byte (F : am_fix p R s mm args meth c m) (hA : ∀ q, s.heap.size ≤ q → A q) (hX : am_ext ρ0 L xs A s s.heap) (hK : va_K D am_cl (am_tys τ) s) (h6 : 6 ≤ n0) : am_STEP p l e R s mm args below meth c Q m D τ A L xs n0 ρ0 (.newarray .byte) := by
  intro H locs cells slots pc nx a b cc k lv ls ls' st st' h h' g pc' ρ lsC hok hkd hs hg I hcel hslo kk
  obtain ⟨hx, hb, hml, hown, hts, hfr, hlo, hin⟩ := F
  obtain ⟨hP, hD, hS, hl, hst, hh, hdm, hn0, hρ⟩ := id I
  simp only [am_okb, am_okb1, Bool.and_eq_true, decide_eq_true_eq, and_true] at hok
  try simp only [am_lni] at hok
  obtain ⟨⟨hd, rfl⟩, ht, -⟩ := hok
  have ht : a = 1 := ht.symm
  subst ht
  simp only [am_s, am_newa] at hs
  split at hs
  · rename_i n st2
    cases hs
    have e1 : (h ++ [am_zero 1 n.toNatClampNeg]).length - h.length = 1 := by simp
    have e2 : am_sz (h ++ [am_zero 1 n.toNatClampNeg]) - am_sz h = n.toNatClampNeg := by rw [am_sz_push]; show _ + n.toNatClampNeg - _ = _; omega
    rw [e1] at hcel
    rw [e2] at hslo
    refine va_newa (atype := .byte) (a0 := (n.toNatClampNeg, .inl fun _ => 0)) hx hb (hts _ am_ac_byte) rfl hK hP hD hS hA (fun _ => rfl) hg.1 rfl (by show _ * 1 ≤ _; have := hg.2; omega) hcel hslo hd (fun q cA H1 hK1 hP1 hD1 hS1 => ?_)
    have hc : cA = τ 1 := am_cA (hK1.2 6 (cA, _) rfl).2 (hK.2 1 (τ 1, _) rfl).2
    subst hc
    exact am_kn (c1 := am_zero 1 n.toNatClampNeg) I trivial kk hst.tl rfl hP1 hD1 hS1
  · cases hs
theorem am_st_newa_boolean (F : am_fix p R s mm args meth c m) (hA : ∀ q, s.heap.size ≤ q → A q) (hX : am_ext ρ0 L xs A s s.heap) (hK : va_K D am_cl (am_tys τ) s) (h6 : 6 ≤ n0) : am_STEP p l e R s mm args below meth c Q m D τ A L xs n0 ρ0 (.newarray .boolean) := by
  intro H locs cells slots pc nx a b cc k lv ls ls' st st' h h' g pc' ρ lsC hok hkd hs hg I hcel hslo kk
  obtain ⟨hx, hb, hml, hown, hts, hfr, hlo, hin⟩ := F
  obtain ⟨hP, hD, hS, hl, hst, hh, hdm, hn0, hρ⟩ := id I
  simp only [am_okb, am_okb1, Bool.and_eq_true, decide_eq_true_eq, and_true] at hok
  try simp only [am_lni] at hok
  obtain ⟨⟨hd, rfl⟩, ht, -⟩ := hok
  have ht : a = 2 := ht.symm
  subst ht
  simp only [am_s, am_newa] at hs
  split at hs
  · rename_i n st2
    cases hs
    have e1 : (h ++ [am_zero 2 n.toNatClampNeg]).length - h.length = 1 := by simp
    have e2 : am_sz (h ++ [am_zero 2 n.toNatClampNeg]) - am_sz h = n.toNatClampNeg := by rw [am_sz_push]; show _ + n.toNatClampNeg - _ = _; omega
    rw [e1] at hcel
    rw [e2] at hslo
    refine va_newa (atype := .boolean) (a0 := (n.toNatClampNeg, .inl fun _ => 0)) hx hb (hts _ am_ac_boolean) rfl hK hP hD hS hA (fun _ => rfl) hg.1 rfl (by show _ * 1 ≤ _; have := hg.2; omega) hcel hslo hd (fun q cA H1 hK1 hP1 hD1 hS1 => ?_)
    have hc : cA = τ 2 := am_cA (hK1.2 6 (cA, _) rfl).2 (hK.2 2 (τ 2, _) rfl).2
    subst hc
    exact am_kn (c1 := am_zero 2 n.toNatClampNeg) I trivial kk hst.tl rfl hP1 hD1 hS1
  · cases hs
theorem am_st_newa_long (F : am_fix p R s mm args meth c m) (hA : ∀ q, s.heap.size ≤ q → A q) (hX : am_ext ρ0 L xs A s s.heap) (hK : va_K D am_cl (am_tys τ) s) (h6 : 6 ≤ n0) : am_STEP p l e R s mm args below meth c Q m D τ A L xs n0 ρ0 (.newarray .long) := by
  intro H locs cells slots pc nx a b cc k lv ls ls' st st' h h' g pc' ρ lsC hok hkd hs hg I hcel hslo kk
  obtain ⟨hx, hb, hml, hown, hts, hfr, hlo, hin⟩ := F
  obtain ⟨hP, hD, hS, hl, hst, hh, hdm, hn0, hρ⟩ := id I
  simp only [am_okb, am_okb1, Bool.and_eq_true, decide_eq_true_eq, and_true] at hok
  try simp only [am_lni] at hok
  obtain ⟨⟨hd, rfl⟩, ht, -⟩ := hok
  have ht : a = 3 := ht.symm
  subst ht
  simp only [am_s, am_newa] at hs
  split at hs
  · rename_i n st2
    cases hs
    have e1 : (h ++ [am_zero 3 n.toNatClampNeg]).length - h.length = 1 := by simp
    have e2 : am_sz (h ++ [am_zero 3 n.toNatClampNeg]) - am_sz h = n.toNatClampNeg := by rw [am_sz_push]; show _ + n.toNatClampNeg - _ = _; omega
    rw [e1] at hcel
    rw [e2] at hslo
    refine va_newa (atype := .long) (a0 := (n.toNatClampNeg, .inr (.inl fun _ => 0))) hx hb (hts _ am_ac_long) rfl hK hP hD hS hA (fun _ => rfl) hg.1 rfl (by show _ * 8 ≤ _; have := hg.2; omega) hcel hslo hd (fun q cA H1 hK1 hP1 hD1 hS1 => ?_)
    have hc : cA = τ 3 := am_cA (hK1.2 6 (cA, _) rfl).2 (hK.2 3 (τ 3, _) rfl).2
    subst hc
    exact am_kn (c1 := am_zero 3 n.toNatClampNeg) I trivial kk hst.tl rfl hP1 hD1 hS1
  · cases hs
theorem am_st_anewarray (F : am_fix p R s mm args meth c m) (hA : ∀ q, s.heap.size ≤ q → A q) (hX : am_ext ρ0 L xs A s s.heap) (hK : va_K D am_cl (am_tys τ) s) (h6 : 6 ≤ n0) {x : Nat} : am_STEP p l e R s mm args below meth c Q m D τ A L xs n0 ρ0 (.anewarray x) := by
  intro H locs cells slots pc nx a b cc k lv ls ls' st st' h h' g pc' ρ lsC hok hkd hs hg I hcel hslo kk
  obtain ⟨hx, hb, hml, hown, hts, hfr, hlo, hin⟩ := F
  obtain ⟨hP, hD, hS, hl, hst, hh, hdm, hn0, hρ⟩ := id I
  simp only [am_okb, am_okb1, Bool.and_eq_true, decide_eq_true_eq, and_true] at hok
  try simp only [am_lni] at hok
  obtain ⟨⟨hd, rfl⟩, hq⟩ := hok
  simp only [am_s, am_newq] at hs
  split at hs
  · rename_i n st2
    cases hs
    have e1 : (h ++ [(Sum.inl (a, (n.toNatClampNeg, .inr (.inr (.inr (.inr fun _ => none))))) : am_C)]).length - h.length = 1 := by simp
    have e2 : am_sz (h ++ [(Sum.inl (a, (n.toNatClampNeg, .inr (.inr (.inr (.inr fun _ => none))))) : am_C)]) - am_sz h = n.toNatClampNeg := by rw [am_sz_push]; show _ + n.toNatClampNeg - _ = _; omega
    rw [e1] at hcel
    rw [e2] at hslo
    obtain ⟨C, hC, hlk, -⟩ := am_QL_ok _ hq
    have hb4 : n.toNatClampNeg * 4 ≤ 536870912 := by have := hg.2; omega
    have key : ∀ (C' : String) (t : Nat), (am_tys τ)[t]? = some (τ t, .object C') → a = t → C = C' → va_AO C' s → W p l e R s mm args below meth c H locs cells slots Q (F0 mm pc lsC ((Value.int n :: st2).map (am_t ρ))) := by
      intro C' t ht ea eC hao
      subst ea eC
      refine va_newq hx hb hown (hts _ hlk) hao hK hP hD hS hA hg.1 rfl hb4 hcel hslo hd (fun q cA H1 hK1 hP1 hD1 hS1 => ?_)
      have hc : cA = τ a := am_cA (hK1.2 6 (cA, _) rfl).2 (hK.2 a (τ a, _) ht).2
      subst hc
      exact am_kn (c1 := .inl (a, (n.toNatClampNeg, .inr (.inr (.inr (.inr fun _ => none)))))) I (fun i v hv => by cases hv) kk hst.tl rfl hP1 hD1 hS1
    match a, hC with
    | 0, hC => cases hC
    | 1, hC => cases hC
    | 2, hC => cases hC
    | 3, hC => cases hC
    | 4, hC => cases hC; exact key _ 4 rfl rfl rfl hX.2.2.2.2.2.2.2.1
    | 5, hC => cases hC; exact key _ 5 rfl rfl rfl hX.2.2.2.2.2.2.2.2
    | j + 6, hC => simp [am_TY] at hC
  · cases hs
theorem am_st_new (F : am_fix p R s mm args meth c m) (hA : ∀ q, s.heap.size ≤ q → A q) (hX : am_ext ρ0 L xs A s s.heap) (hK : va_K D am_cl (am_tys τ) s) (h6 : 6 ≤ n0) {x : Nat} : am_STEP p l e R s mm args below meth c Q m D τ A L xs n0 ρ0 (.new x) := by
  intro H locs cells slots pc nx a b cc k lv ls ls' st st' h h' g pc' ρ lsC hok hkd hs hg I hcel hslo kk
  obtain ⟨hx, hb, hml, hown, hts, hfr, hlo, hin⟩ := F
  obtain ⟨hP, hD, hS, hl, hst, hh, hdm, hn0, hρ⟩ := id I
  simp only [am_okb, am_okb1, Bool.and_eq_true, decide_eq_true_eq, and_true] at hok
  try simp only [am_lni] at hok
  obtain ⟨⟨hd, rfl⟩, hq⟩ := hok
  simp only [am_s] at hs
  cases hs
  obtain ⟨C, T, N, hc, hlk⟩ := am_NL_ok _ hq
  obtain ⟨k1, k2, k3, k4, k5, k6, k7⟩ := am_okC_all a C T N hc
  have e1 : (h ++ [(Sum.inr (a, am_df a) : am_C)]).length - h.length = 1 := by simp
  have e2 : am_sz (h ++ [(Sum.inr (a, am_df a) : am_C)]) - am_sz h = N := by rw [am_sz_push]; show _ + (am_df a).length - _ = _; omega
  rw [e1] at hcel
  rw [e2] at hslo
  refine va_new (N := N) hx hb hts k1 (am_ft a) k2 hown (hts _ hlk) (hts _ k4) (hts _ k5) hK hP hD hS hA hc k7 hcel hslo hd (fun q H1 hP1 hD1 hS1 => ?_)
  have := am_kn (c1 := .inr (a, am_df a)) I (am_df_sc a _) kk hst (q := q) (e1 := .inr (a, am_df a)) (by simp only [am_tc]; rw [am_df_t]) hP1 hD1 hS1
  have e3 : am_z (.inr (a, am_df a)) = N := k6
  rw [e3] at this
  exact this
theorem am_st_getfield (F : am_fix p R s mm args meth c m) (hA : ∀ q, s.heap.size ≤ q → A q) (hX : am_ext ρ0 L xs A s s.heap) (hK : va_K D am_cl (am_tys τ) s) (h6 : 6 ≤ n0) {x : Nat} : am_STEP p l e R s mm args below meth c Q m D τ A L xs n0 ρ0 (.getfield x) := by
  intro H locs cells slots pc nx a b cc k lv ls ls' st st' h h' g pc' ρ lsC hok hkd hs hg I hcel hslo kk
  obtain ⟨hx, hb, hml, hown, hts, hfr, hlo, hin⟩ := F
  obtain ⟨hP, hD, hS, hl, hst, hh, hdm, hn0, hρ⟩ := id I
  simp only [am_okb, am_okb1, Bool.and_eq_true, decide_eq_true_eq, and_true] at hok
  try simp only [am_lni] at hok
  obtain ⟨⟨hd, rfl⟩, hq⟩ := hok
  simp only [am_s, am_getf] at hs
  split at hs
  · rename_i r st2
    obtain ⟨C, T, N, ref, hc, hk, hlk, hsm⟩ := am_FL_ok _ hq
    obtain ⟨k1, k2, k3, k4, k5, k6, k7⟩ := am_okC_all a C T N hc
    have hsame : ∀ x, s.fieldFound? (T b).1 (T b).2.1 (T b).2.2.1 = some x → s.fieldFound? ref (T b).2.1 (T b).2.2.1 = some x := by
      rcases hsm with hsm | hsm
      · rw [hsm]; exact fun _ q => q
      · exact fun y q => u_same (hts _ hsm) y q
    split at hs
    · rename_i ci fs hget
      split at hs
      · rename_i ht
        have t0 : ci = a := Nat.eq_of_beq_eq_true ht
        subst t0
        split at hs
        · rename_i v hv
          cases hs
          by_cases hr : 6 ≤ r
          · exact va_get hx hb hts k1 hown hK hP (r - 6) (am_w_get hr hget) hc b hk (hts _ hlk) hsame (by rw [List.getElem?_map, ← am_get_eq, hv]; rfl) hd (am_kp I kk hl (am_ss.cn (hh _ (am_mem_get hget) v (am_mem_get hv)) hst.tl))
          · rcases hdm.low (Nat.not_le.mp hr) hget with ⟨-, e⟩ | ⟨-, -, e⟩ | ⟨-, e⟩
            · cases e
            · cases e; cases hv
            · cases e
        · cases hs
      · cases hs
    · cases hs
  · cases hs
theorem am_st_putfield (F : am_fix p R s mm args meth c m) (hA : ∀ q, s.heap.size ≤ q → A q) (hX : am_ext ρ0 L xs A s s.heap) (hK : va_K D am_cl (am_tys τ) s) (h6 : 6 ≤ n0) {x : Nat} : am_STEP p l e R s mm args below meth c Q m D τ A L xs n0 ρ0 (.putfield x) := by
  intro H locs cells slots pc nx a b cc k lv ls ls' st st' h h' g pc' ρ lsC hok hkd hs hg I hcel hslo kk
  obtain ⟨hx, hb, hml, hown, hts, hfr, hlo, hin⟩ := F
  obtain ⟨hP, hD, hS, hl, hst, hh, hdm, hn0, hρ⟩ := id I
  simp only [am_okb, am_okb1, Bool.and_eq_true, decide_eq_true_eq, and_true] at hok
  try simp only [am_lni] at hok
  obtain ⟨⟨hd, rfl⟩, hq, hfi⟩ := hok
  simp only [am_s] at hs
  split at hs
  · rename_i v r st2
    obtain ⟨C, T, N, ref, hc, hk, hlk, hsm⟩ := am_FL_ok _ hq
    obtain ⟨k1, k2, k3, k4, k5, k6, k7⟩ := am_okC_all a C T N hc
    have hsame : ∀ x, s.fieldFound? (T b).1 (T b).2.1 (T b).2.2.1 = some x → s.fieldFound? ref (T b).2.1 (T b).2.2.1 = some x := by
      rcases hsm with hsm | hsm
      · rw [hsm]; exact fun _ q => q
      · exact fun y q => u_same (hts _ hsm) y q
    split at hs
    · rename_i ci fs hget
      split at hs
      · rename_i ht
        have t0 : ci = a := Nat.eq_of_beq_eq_true ht
        subst t0
        split at hs
        · rename_i v0 hv
          cases hs
          have hr : 6 ≤ r := by
            rcases Nat.lt_or_ge r 6 with hr | hr
            · rcases hdm.low hr hget with ⟨-, e⟩ | ⟨-, -, e⟩ | ⟨-, e⟩
              · cases e
              · cases e; cases hv
              · cases e
            · exact hr
          obtain ⟨f1, f2⟩ := am_fg_ok (ρ := ρ) hg
          have hlen : b < (fs.map (am_t ρ)).length := by rw [List.length_map]; exact am_get_lt hv
          have hsc : am_scc h.length (.inr (ci, am_set fs b v)) := by
            intro w hw
            rw [am_set_eq] at hw
            rcases List.mem_or_eq_of_mem_set hw with hw | rfl
            · exact hh _ (am_mem_get hget) w hw
            · exact hst.hd
          have hz : am_z (.inr (ci, am_set fs b v)) = am_z (.inr (ci, fs)) := am_len_set fs b v
          cases hT : (T b).2.2.2 with
          | false =>
            exact va_put hx hb hts k1 (am_ft ci) k2 k3 hown hK hP hD hS (r - 6) (am_w_get hr hget) hc b hk (hts _ hlk) hsame hT (k2 b hk) f1 f2 hlen hd (fun H1 locs1 q1 q2 q3 => am_ks I hr hget kk hz hsc hst.tl.tl (by rw [am_tc_set]; exact q1) (by rw [am_tc_set]; exact q2) q3)
          | true =>
            have e1 : am_fin ci b = true := by simp only [am_fin, hc, hT]
            have e2 : am_dcl ci b = (T b).1 := by simp only [am_dcl, hc]
            rw [e1, e2] at hfi
            simp only [Bool.not_true, Bool.false_or, Bool.and_eq_true, decide_eq_true_eq] at hfi
            exact va_putF hx hb hts k1 (am_ft ci) k2 k3 hown hK hP hD hS (r - 6) (am_w_get hr hget) hc b hk (hts _ hlk) hsame hT (hin hfi.1) hfi.2 (k2 b hk) f1 f2 hlen hd (fun H1 locs1 q1 q2 q3 => am_ks I hr hget kk hz hsc hst.tl.tl (by rw [am_tc_set]; exact q1) (by rw [am_tc_set]; exact q2) q3)
        · cases hs
      · cases hs
    · cases hs
  · cases hs
theorem am_st_checkcast (F : am_fix p R s mm args meth c m) (hA : ∀ q, s.heap.size ≤ q → A q) (hX : am_ext ρ0 L xs A s s.heap) (hK : va_K D am_cl (am_tys τ) s) (h6 : 6 ≤ n0) {x : Nat} : am_STEP p l e R s mm args below meth c Q m D τ A L xs n0 ρ0 (.checkcast x) := by
  intro H locs cells slots pc nx a b cc k lv ls ls' st st' h h' g pc' ρ lsC hok hkd hs hg I hcel hslo kk
  obtain ⟨hx, hb, hml, hown, hts, hfr, hlo, hin⟩ := F
  obtain ⟨hP, hD, hS, hl, hst, hh, hdm, hn0, hρ⟩ := id I
  simp only [am_okb, am_okb1, Bool.and_eq_true, decide_eq_true_eq, and_true] at hok
  try simp only [am_lni] at hok
  obtain ⟨⟨hd, rfl⟩, hq⟩ := hok
  simp only [am_s, am_chk] at hs
  split at hs
  · rename_i r st2
    split at hs
    · rename_i ci fs hget
      split at hs
      · rename_i ht
        cases hs
        have t0 : ci = a ∧ 6 ≤ r := by simpa [Nat.ble_eq] using ht
        obtain ⟨rfl, hr⟩ := t0
        have he := am_w_get (ρ := ρ) (τ := τ) hr hget
        simp only [Bool.or_eq_true, decide_eq_true_eq] at hq
        rcases hq with rfl | hq
        · obtain ⟨r0, h1, -⟩ := hP _ _ he
          cases h1
        · obtain ⟨C, T, N, hc, hlk⟩ := am_NL_ok _ hq
          exact va_castS hx hb hown (hts _ hlk) (hK.1 _ _ hc).2 (va_recv hK hP hc he) hd (am_kp I kk hl (am_ss.cn hst.hd hst.tl))
      · cases hs
    · cases hs
  · cases hs
theorem am_kd5 {x b : Nat} (h : am_kd (.invokevirtual x) b = 0) : b = 5 := by
  simp only [am_kd] at h
  split at h
  · cases h
  · rfl
  · cases h
theorem am_kd4 {x b : Nat} (h : am_kd (.invokespecial x) b = 0) : b = 4 := by
  simp only [am_kd] at h
  split at h
  · cases h
  · cases h
  · rfl
  · cases h
theorem am_kd678 {x b : Nat} (h : am_kd (.invokestatic x) b = 0) : b = 6 ∨ b = 7 ∨ b = 8 := by
  simp only [am_kd] at h
  split at h
  · cases h
  · exact Or.inl rfl
  · exact Or.inr (Or.inl rfl)
  · exact Or.inr (Or.inr rfl)
  · cases h
theorem am_st_getclass (F : am_fix p R s mm args meth c m) (hA : ∀ q, s.heap.size ≤ q → A q) (hX : am_ext ρ0 L xs A s s.heap) (hK : va_K D am_cl (am_tys τ) s) (h6 : 6 ≤ n0) {x : Nat} : am_STEP p l e R s mm args below meth c Q m D τ A L xs n0 ρ0 (.invokevirtual x) := by
  intro H locs cells slots pc nx a b cc k lv ls ls' st st' h h' g pc' ρ lsC hok hkd hs hg I hcel hslo kk
  obtain ⟨hx, hb, hml, hown, hts, hfr, hlo, hin⟩ := F
  obtain ⟨hP, hD, hS, hl, hst, hh, hdm, hn0, hρ⟩ := id I
  simp only [am_okb, am_okb1, Bool.and_eq_true, decide_eq_true_eq, and_true] at hok
  try simp only [am_lni] at hok
  have b5 := am_kd5 hkd
  subst b5
  simp only [Bool.and_eq_true, decide_eq_true_eq] at hok
  obtain ⟨⟨hd, rfl⟩, ⟨hq, w1⟩, w2⟩ := hok
  simp only [am_s, am_getc] at hs
  split at hs
  · rename_i r st2
    split at hs
    · rename_i t y hget
      split at hs
      · rename_i ht
        cases hs
        have t0 : (t = 4 ∧ 6 ≤ r) ∧ am_room st2 = true := by simpa [Nat.ble_eq] using ht
        obtain ⟨⟨rfl, hr⟩, hrm⟩ := t0
        obtain ⟨n, y⟩ := y
        obtain ⟨y', hy'⟩ := am_cell_x (ρ := ρ) (τ := τ) (t := 4) (n := n) (y := y)
        have he := am_w_get (ρ := ρ) (τ := τ) hr hget
        rw [hy'] at he
        have hcell : H[ρ r]? = some (vp_cell (τ 4) (n, y')) := hP _ _ he
        have hcls : s.vm.findClass "[Ljava/lang/Object;" = some (τ 4) := va_nmO (hK.2 4 (τ 4, _) rfl).2 (by decide)
        have e4 := hρ 4 (by omega)
        have hrl := am_room_le (ρ := ρ) hrm
        exact va_getC (C := "[Ljava/lang/Object;") (mi := ρ 4) hx hb (hml.trans hl.1.symm) hown (hts _ (am_GC_ok _ hq)) hX.2.2.2.2.2.2.1.use (hts _ am_w_gc.2.1) (hts _ am_w_gc.2.2.1) (hts _ am_w_gc.2.2.2) (by rw [e4]; exact hX.2.2.2.1) ⟨_, hcell, by rcases y' with f | f | f | f | f <;> rfl, by rw [hcls]; rcases y' with f | f | f | f | f <;> rfl⟩ (by omega) (by omega) hd (am_kp I kk hl (am_ss.cn (v := .ref 4) (Nat.lt_of_lt_of_le (by decide) hdm.1) hst.tl))
      · cases hs
    · cases hs
  · cases hs
theorem am_st_objinit (F : am_fix p R s mm args meth c m) (hA : ∀ q, s.heap.size ≤ q → A q) (hX : am_ext ρ0 L xs A s s.heap) (hK : va_K D am_cl (am_tys τ) s) (h6 : 6 ≤ n0) {x : Nat} : am_STEP p l e R s mm args below meth c Q m D τ A L xs n0 ρ0 (.invokespecial x) := by
  intro H locs cells slots pc nx a b cc k lv ls ls' st st' h h' g pc' ρ lsC hok hkd hs hg I hcel hslo kk
  obtain ⟨hx, hb, hml, hown, hts, hfr, hlo, hin⟩ := F
  obtain ⟨hP, hD, hS, hl, hst, hh, hdm, hn0, hρ⟩ := id I
  simp only [am_okb, am_okb1, Bool.and_eq_true, decide_eq_true_eq, and_true] at hok
  try simp only [am_lni] at hok
  have b4 := am_kd4 hkd
  subst b4
  simp only [Bool.and_eq_true, decide_eq_true_eq, am_prim_ok] at hok
  obtain ⟨⟨hd, rfl⟩, hq, w1, w2⟩ := hok
  simp only [am_s] at hs
  split at hs
  · rename_i r st2
    split at hs
    · rename_i hrm
      cases hs
      have hrl := am_room_le (ρ := ρ) hrm
      have hrm2 := lv_room (m := mm) (pc := pc) (ls := lsC) (rest := (Value.ref r :: st').map (am_t ρ)) (am_room_le (ρ := ρ) hrm)
      have hl2 : 8 + 12 ≤ R.locals := Nat.le_trans w2 hlo
      exact W.objInit (g := F0 mm pc lsC ((Value.ref r :: st').map (am_t ρ))) (rest := st'.map (am_t ρ)) hx hb hown (hts _ (am_OI_ok _ hq)) (hts _ am_w_obj.1) (hts _ am_w_obj.2) rfl (hl.1.trans hml.symm) rfl hd (Nat.le_trans w1 hfr) (Nat.le_trans (Nat.add_le_add_right hrm2 12) hl2) (W.eq (g2 := F0 mm (pc + 3) lsC (st'.map (am_t ρ))) rfl (am_kp I kk hl hst.tl))
    · cases hs
  · cases hs
theorem am_st_static (F : am_fix p R s mm args meth c m) (hA : ∀ q, s.heap.size ≤ q → A q) (hX : am_ext ρ0 L xs A s s.heap) (hK : va_K D am_cl (am_tys τ) s) (h6 : 6 ≤ n0) {x : Nat} : am_STEP p l e R s mm args below meth c Q m D τ A L xs n0 ρ0 (.invokestatic x) := by
  intro H locs cells slots pc nx a b cc k lv ls ls' st st' h h' g pc' ρ lsC hok hkd hs hg I hcel hslo kk
  obtain ⟨hx, hb, hml, hown, hts, hfr, hlo, hin⟩ := F
  obtain ⟨hP, hD, hS, hl, hst, hh, hdm, hn0, hρ⟩ := id I
  simp only [am_okb, am_okb1, Bool.and_eq_true, decide_eq_true_eq, and_true] at hok
  try simp only [am_lni] at hok
  rcases am_kd678 hkd with rfl | rfl | rfl
  · simp only [Bool.and_eq_true, decide_eq_true_eq] at hok
    obtain ⟨⟨hd, rfl⟩, ⟨hq, w1⟩, w2⟩ := hok
    simp only [am_s, am_cpy] at hs
    split at hs
    · rename_i n dp r1 sp r0 st2
      split at hs
      · rename_i n0' f n1 g1 hrm hget0 hget1
        cases hs
        obtain ⟨g1', g2', g3', g4', g5'⟩ := hg
        have hr0 : 6 ≤ r0 := by
          rcases Nat.lt_or_ge r0 6 with hr | hr
          · rcases hdm.low hr hget0 with ⟨-, e⟩ | ⟨-, -, e⟩ | ⟨-, e⟩ <;> cases e
          · exact hr
        have hr1 : 6 ≤ r1 := by
          rcases Nat.lt_or_ge r1 6 with hr | hr
          · rcases hdm.low hr hget1 with ⟨-, e⟩ | ⟨-, -, e⟩ | ⟨-, e⟩ <;> cases e
          · exact hr
        have hrl := am_room_le (ρ := ρ) hrm
        have hnw : nativeFrameWords "java/lang/System" "arraycopy" 5 = 7 := by decide
        exact va_copyl hx hb (hml.trans hl.1.symm) hown (hts _ (am_CP_ok _ hq)) (hts _ am_w_cp.1) (hts _ am_w_cp.2.1) (hts _ am_w_cp.2.2) hK hP hD hS (r0 - 6) (r1 - 6) 3 3 (am_w_get hr0 hget0) (am_w_get hr1 hget1) rfl rfl rfl g1' g2' g3' g4' g5' (fun _ _ => rfl) (by omega) (by omega) hd (fun H1 locs1 q1 q2 q3 => am_ks I hr1 hget1 kk rfl trivial hst.tl.tl.tl.tl.tl q1 q2 q3)
      · rename_i n0' f n1 g1 hrm hget0 hget1
        cases hs
        obtain ⟨hr0, hr1, g1', g2', g3', g4', g5', g6'⟩ := hg
        have hrl := am_room_le (ρ := ρ) hrm
        have hnw : nativeFrameWords "java/lang/System" "arraycopy" 5 = 7 := by decide
        have hsc : am_scc h.length (.inl (4, (n1, .inr (.inr (.inr (.inr (va_cpy f g1 sp.toNatClampNeg dp.toNatClampNeg n.toNatClampNeg))))))) := by
          intro i v hv
          simp only [va_cpy] at hv
          split at hv
          · exact hh _ (am_mem_get hget0) _ v hv
          · exact hh _ (am_mem_get hget1) _ v hv
        refine va_copyM (E0 := "java/lang/Object") (E1 := "java/lang/Object") hx hb (hml.trans hl.1.symm) hown (hts _ (am_CP_ok _ hq)) (hts _ am_w_cp.1) (hts _ am_w_cp.2.1) (hts _ am_w_cp.2.2) hK hP hD hS (r0 - 6) (r1 - 6) 4 4 (am_w_get hr0 hget0) (am_w_get hr1 hget1) rfl rfl g1' g2' g3' g4' g5' (fun i hi y hy => ?_) (by omega) (by omega) hd (fun H1 locs1 q1 q2 q3 => am_ks I hr1 hget1 kk rfl hsc hst.tl.tl.tl.tl.tl (by rw [am_tc_cpy]; exact q1) (by rw [am_tc_cpy]; exact q2) q3)
        cases hfi : f (sp.toNatClampNeg + i) with
        | none => rw [hfi] at hy; cases hy
        | some z =>
          rw [hfi] at hy
          cases hy
          obtain ⟨hz, fs, hgz⟩ := g6' i hi z hfi
          exact va_rAny (r := ("TextIndices$Part", F_Pa, 5)) hK hP (am_w_get hz hgz) rfl (vb_asgC (hX.2.2.2.2.2.1 _ (by simp [am_NW])))
      · cases hs
    · cases hs
  · simp only [Bool.and_eq_true, decide_eq_true_eq] at hok
    obtain ⟨⟨hd, rfl⟩, ⟨hq, w1⟩, w2⟩ := hok
    simp only [am_s] at hs
    split at hs
    · rename_i y x st2
      split at hs
      · rename_i hrm
        cases hs
        have hrl := am_room_le (ρ := ρ) hrm
        exact va_mmax hx hb (hml.trans hl.1.symm) hown (hts _ (am_MX_ok _ hq)) (hts _ am_w_max.1) (hts _ am_w_max.2.1) (hts _ am_w_max.2.2) (by omega) (by omega) (by omega) (by omega) hd (am_kp I kk hl (am_ss.cn trivial hst.tl.tl))
      · cases hs
    · cases hs
  · simp only [Bool.and_eq_true, decide_eq_true_eq] at hok
    obtain ⟨⟨hd, rfl⟩, ⟨hq, w1⟩, w2⟩ := hok
    simp only [am_s] at hs
    split at hs
    · rename_i y x st2
      split at hs
      · rename_i hrm
        cases hs
        have hrl := am_room_le (ρ := ρ) hrm
        exact va_mmin hx hb (hml.trans hl.1.symm) hown (hts _ (am_MN_ok _ hq)) (hts _ am_w_min.1) (hts _ am_w_min.2.1) (hts _ am_w_min.2.2) (by omega) (by omega) (by omega) (by omega) hd (am_kp I kk hl (am_ss.cn trivial hst.tl.tl))
      · cases hs
    · cases hs
set_option maxHeartbeats 4000000 in
theorem am_sim (F : am_fix p R s mm args meth c m) (hA : ∀ q, s.heap.size ≤ q → A q) (hX : am_ext ρ0 L xs A s s.heap) (hK : va_K D am_cl (am_tys τ) s) (h6 : 6 ≤ n0) (i : Jvm.ClassFile.Instr) : am_STEP p l e R s mm args below meth c Q m D τ A L xs n0 ρ0 i := by
  cases i with
  | iadd => exact am_st_iadd F hA hX hK h6
  | isub => exact am_st_isub F hA hX hK h6
  | imul => exact am_st_imul F hA hX hK h6
  | iand => exact am_st_iand F hA hX hK h6
  | ishr => exact am_st_ishr F hA hX hK h6
  | ladd => exact am_st_ladd F hA hX hK h6
  | lsub => exact am_st_lsub F hA hX hK h6
  | lmul => exact am_st_lmul F hA hX hK h6
  | land => exact am_st_land F hA hX hK h6
  | lor => exact am_st_lor F hA hX hK h6
  | irem => exact am_st_irem F hA hX hK h6
  | ldiv => exact am_st_ldiv F hA hX hK h6
  | lrem => exact am_st_lrem F hA hX hK h6
  | lcmp => exact am_st_lcmp F hA hX hK h6
  | lshl => exact am_st_lshl F hA hX hK h6
  | lshr => exact am_st_lshr F hA hX hK h6
  | lushr => exact am_st_lushr F hA hX hK h6
  | i2l => exact am_st_i2l F hA hX hK h6
  | l2i => exact am_st_l2i F hA hX hK h6
  | i2b => exact am_st_i2b F hA hX hK h6
  | iload n => exact am_st_iload F hA hX hK h6
  | iload_n n => exact am_st_iload_n F hA hX hK h6
  | lload n => exact am_st_lload F hA hX hK h6
  | lload_n n => exact am_st_lload_n F hA hX hK h6
  | aload n => exact am_st_aload F hA hX hK h6
  | istore n => exact am_st_istore F hA hX hK h6
  | lstore n => exact am_st_lstore F hA hX hK h6
  | astore n => exact am_st_astore F hA hX hK h6
  | aload_n n => exact am_st_aload_n F hA hX hK h6
  | istore_n n => exact am_st_istore_n F hA hX hK h6
  | lstore_n n => exact am_st_lstore_n F hA hX hK h6
  | astore_n n => exact am_st_astore_n F hA hX hK h6
  | iinc n d => exact am_st_iinc F hA hX hK h6
  | iconst n => exact am_st_iconst F hA hX hK h6
  | bipush n => exact am_st_bipush F hA hX hK h6
  | sipush n => exact am_st_sipush F hA hX hK h6
  | lconst n => exact am_st_lconst F hA hX hK h6
  | ldc2_w x => exact am_st_ldc2_w F hA hX hK h6
  | ldc x => exact am_st_ldc F hA hX hK h6
  | getstatic x => exact am_st_getstatic F hA hX hK h6
  | dup => exact am_st_dup F hA hX hK h6
  | pop => exact am_st_pop F hA hX hK h6
  | dup_x1 => exact am_st_dup_x1 F hA hX hK h6
  | dup2 => exact am_st_dup2 F hA hX hK h6
  | aconst_null => exact am_st_aconst_null F hA hX hK h6
  | goto d => exact am_st_goto F hA hX hK h6
  | if_icmp c d =>
    cases c with
    | eq => exact am_st_icmp_eq F hA hX hK h6
    | ne => exact am_st_icmp_ne F hA hX hK h6
    | lt => exact am_st_icmp_lt F hA hX hK h6
    | ge => exact am_st_icmp_ge F hA hX hK h6
    | gt => exact am_st_icmp_gt F hA hX hK h6
    | le => exact am_st_icmp_le F hA hX hK h6
  | ifCond c d =>
    cases c with
    | eq => exact am_st_if_eq F hA hX hK h6
    | ne => exact am_st_if_ne F hA hX hK h6
    | lt => exact am_st_if_lt F hA hX hK h6
    | ge => exact am_st_if_ge F hA hX hK h6
    | gt => exact am_st_if_gt F hA hX hK h6
    | le => exact am_st_if_le F hA hX hK h6
  | if_acmp c d =>
    cases c with
    | eq => exact am_st_acmp_eq F hA hX hK h6
    | ne => exact am_st_acmp_ne F hA hX hK h6
  | ifnull d => exact am_st_ifnull F hA hX hK h6
  | ifnonnull d => exact am_st_ifnonnull F hA hX hK h6
  | tableswitch d lo hi offs => exact am_st_tableswitch F hA hX hK h6
  | iaload => exact am_st_iaload F hA hX hK h6
  | baload => exact am_st_baload F hA hX hK h6
  | laload => exact am_st_laload F hA hX hK h6
  | aaload => exact am_st_aaload F hA hX hK h6
  | iastore => exact am_st_iastore F hA hX hK h6
  | bastore => exact am_st_bastore F hA hX hK h6
  | lastore => exact am_st_lastore F hA hX hK h6
  | aastore => exact am_st_aastore F hA hX hK h6
  | arraylength => exact am_st_arraylength F hA hX hK h6
  | newarray t =>
    cases t with
    | int => exact am_st_newa_int F hA hX hK h6
    | byte => exact am_st_newa_byte F hA hX hK h6
    | boolean => exact am_st_newa_boolean F hA hX hK h6
    | long => exact am_st_newa_long F hA hX hK h6
    | _ =>
      intro H locs cells slots pc nx a b cc k lv ls ls' st st' h h' g pc' ρ lsC hok hkd hs hg I hcel hslo kk
      simp only [am_okb, am_okb1, Bool.and_eq_true, decide_eq_true_eq] at hok
      simp only [am_tag] at hok
      omega
  | anewarray x => exact am_st_anewarray F hA hX hK h6
  | new x => exact am_st_new F hA hX hK h6
  | getfield x => exact am_st_getfield F hA hX hK h6
  | putfield x => exact am_st_putfield F hA hX hK h6
  | checkcast x => exact am_st_checkcast F hA hX hK h6
  | invokevirtual x => exact am_st_getclass F hA hX hK h6
  | invokespecial x => exact am_st_objinit F hA hX hK h6
  | invokestatic x => exact am_st_static F hA hX hK h6
  | _ =>
    intro H locs cells slots pc nx a b cc k lv ls ls' st st' h h' g pc' ρ lsC hok hkd hs hg I hcel hslo kk
    cases hs
end SIM
