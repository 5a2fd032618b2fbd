/-! ===== the abstract heap as the machine's: ρ tells where a cell lies, τ the classes of the rows ===== -/
theorem am_get_eq {α : Type} (l : List α) (n : Nat) : am_get l n = l[n]? := by
  induction l generalizing n with
  | nil => simp [am_get]
  | cons x l ih => cases n with
    | zero => simp [am_get]
    | succ n => simp [am_get, ih]
theorem am_set_eq {α : Type} (l : List α) (n : Nat) (v : α) : am_set l n v = l.set n v := by
  induction l generalizing n with
  | nil => simp [am_set]
  | cons x l ih => cases n with
    | zero => simp [am_set]
    | succ n => simp [am_set, ih]
def am_t (ρ : Nat → Nat) (v : Value) : Value := match v with
  | .ref k => .ref (ρ k)
  | v => v
def am_sc (n : Nat) (v : Value) : Prop := match v with
  | .ref k => k < n
  | _ => True
def am_tc (ρ : Nat → Nat) (τ : Nat → ClassId) (c : am_C) : va_E := match c with
  | .inl (t, (n, .inr (.inr (.inr (.inr f))))) => .inl (τ t, (n, .inr (.inr (.inr (.inr fun i => (f i).map ρ)))))
  | .inl (t, (n, .inr (.inr (.inr (.inl f))))) => .inl (τ t, (n, .inr (.inr (.inr (.inl f)))))
  | .inl (t, (n, .inr (.inr (.inl f)))) => .inl (τ t, (n, .inr (.inr (.inl f))))
  | .inl (t, (n, .inr (.inl f))) => .inl (τ t, (n, .inr (.inl f)))
  | .inl (t, (n, .inl f)) => .inl (τ t, (n, .inl f))
  | .inr (ci, fs) => .inr (ci, fs.map (am_t ρ))
def am_scc (n : Nat) (c : am_C) : Prop := match c with
  | .inl (_, (_, .inr (.inr (.inr (.inr f))))) => ∀ i k, f i = some k → k < n
  | .inl (_, (_, .inr (.inr (.inr (.inl _))))) => True
  | .inl (_, (_, .inr (.inr (.inl _)))) => True
  | .inl (_, (_, .inr (.inl _))) => True
  | .inl (_, (_, .inl _)) => True
  | .inr (_, fs) => ∀ v ∈ fs, am_sc n v
theorem am_t_ext {ρ ρ' : Nat → Nat} {n : Nat} {v : Value} (h : ∀ k, k < n → ρ' k = ρ k) (hs : am_sc n v) : am_t ρ' v = am_t ρ v := by
  cases v <;> simp only [am_t]
  rw [h _ hs]
theorem am_sc_le {n n' : Nat} {v : Value} (h : n ≤ n') (hs : am_sc n v) : am_sc n' v := by
  cases v <;> simp only [am_sc] at hs ⊢
  exact Nat.lt_of_lt_of_le hs h
theorem am_scc_le {n n' : Nat} {c : am_C} (h : n ≤ n') (hs : am_scc n c) : am_scc n' c := by
  rcases c with ⟨t, m, f | f | f | f | f⟩ | ⟨ci, fs⟩
  · trivial
  · trivial
  · trivial
  · trivial
  · exact fun i k hk => Nat.lt_of_lt_of_le (hs i k hk) h
  · exact fun v hv => am_sc_le h (hs v hv)
theorem am_ts_ext {ρ ρ' : Nat → Nat} {n : Nat} (h : ∀ k, k < n → ρ' k = ρ k) : ∀ (l : List Value), (∀ v ∈ l, am_sc n v) → l.map (am_t ρ') = l.map (am_t ρ)
  | [], _ => rfl
  | v :: l, hs => by
    rw [List.map_cons, List.map_cons, am_t_ext h (hs v List.mem_cons_self), am_ts_ext h l fun v hv => hs v (List.mem_cons_of_mem _ hv)]
theorem am_tc_ext {ρ ρ' : Nat → Nat} {τ : Nat → ClassId} {n : Nat} {c : am_C} (h : ∀ k, k < n → ρ' k = ρ k) (hs : am_scc n c) : am_tc ρ' τ c = am_tc ρ τ c := by
  rcases c with ⟨t, m, f | f | f | f | f⟩ | ⟨ci, fs⟩
  · rfl
  · rfl
  · rfl
  · rfl
  · simp only [am_tc]
    have e : (fun i => (f i).map ρ') = (fun i => (f i).map ρ) := by
      funext i
      cases hi : f i with
      | none => rfl
      | some k => simp only [Option.map_some]; rw [h k (hs i k hi)]
    rw [e]
  · simp only [am_tc]
    rw [am_ts_ext h fs hs]
def am_w (ρ : Nat → Nat) (τ : Nat → ClassId) (h : List am_C) : va_W := (h.drop 6).mapIdx fun k c => (ρ (k + 6), am_tc ρ τ c)
theorem am_w_at (ρ : Nat → Nat) (τ : Nat → ClassId) (h : List am_C) (k : Nat) : (am_w ρ τ h)[k]? = (h[k + 6]?).map fun c => (ρ (k + 6), am_tc ρ τ c) := by
  unfold am_w
  rw [List.getElem?_mapIdx, List.getElem?_drop, Nat.add_comm 6 k]
theorem am_w_get {ρ : Nat → Nat} {τ : Nat → ClassId} {h : List am_C} {k : Nat} {c : am_C} (hk : 6 ≤ k) (hc : am_get h k = some c) : (am_w ρ τ h)[k - 6]? = some (ρ k, am_tc ρ τ c) := by
  rw [am_w_at, show k - 6 + 6 = k by omega, ← am_get_eq, hc]
  rfl
theorem am_w_set {ρ : Nat → Nat} {τ : Nat → ClassId} {h : List am_C} {k : Nat} {c : am_C} (hk : 6 ≤ k) : am_w ρ τ (am_set h k c) = (am_w ρ τ h).set (k - 6) (ρ k, am_tc ρ τ c) := by
  have hl : (am_w ρ τ h).length = h.length - 6 := by simp [am_w]
  apply List.ext_getElem?
  intro j
  rw [am_w_at, am_set_eq, List.getElem?_set, List.getElem?_set, am_w_at, hl]
  by_cases hj : k = j + 6
  · subst hj
    by_cases hh : j + 6 < h.length
    · have h2 : j < h.length - 6 := by omega
      simp [hh, h2]
    · have h2 : ¬ j < h.length - 6 := by omega
      simp [hh, h2]
  · have h2 : ¬ k - 6 = j := by omega
    simp [hj, h2]
theorem am_w_push {ρ : Nat → Nat} {τ : Nat → ClassId} {h : List am_C} {c : am_C} (hk : 6 ≤ h.length) : am_w ρ τ (h ++ [c]) = am_w ρ τ h ++ [(ρ h.length, am_tc ρ τ c)] := by
  unfold am_w
  rw [List.drop_append_of_le_length hk, List.mapIdx_concat]
  rw [List.length_drop, show h.length - 6 + 6 = h.length by omega]
theorem am_w_ext {ρ ρ' : Nat → Nat} {τ : Nat → ClassId} {h : List am_C} (hr : ∀ k, k < h.length → ρ' k = ρ k) (hs : ∀ c ∈ h, am_scc h.length c) : am_w ρ' τ h = am_w ρ τ h := by
  apply List.ext_getElem?
  intro j
  rw [am_w_at, am_w_at]
  cases hj : h[j + 6]? with
  | none => rfl
  | some c =>
    have hl : j + 6 < h.length := (List.getElem?_eq_some_iff.mp hj).1
    simp only [Option.map_some]
    rw [hr _ hl, am_tc_ext hr (hs c (List.mem_of_getElem? hj))]
/-! how much a heap holds -/
def am_z (c : am_C) : Nat := match c with
  | .inl (_, (n, _)) => n
  | .inr (_, fs) => fs.length
def am_sz (h : List am_C) : Nat := (h.map am_z).sum
theorem am_len_set {α : Type} (l : List α) (n : Nat) (v : α) : (am_set l n v).length = l.length := by rw [am_set_eq, List.length_set]
theorem am_sz_set {c c' : am_C} (e : am_z c' = am_z c) : ∀ (h : List am_C) (k : Nat), am_get h k = some c → am_sz (am_set h k c') = am_sz h
  | [], _, hk => by simp [am_get] at hk
  | x :: l, 0, hk => by
    simp only [am_get, Option.some.injEq] at hk
    subst hk
    simp [am_sz, am_set, e]
  | x :: l, k + 1, hk => by
    simp only [am_get] at hk
    have := am_sz_set e l k hk
    simp only [am_sz, am_set, List.map_cons, List.sum_cons] at this ⊢
    omega
theorem am_sz_push (h : List am_C) (c : am_C) : am_sz (h ++ [c]) = am_sz h + am_z c := by simp [am_sz]
def am_le (h h' : List am_C) : Prop := h.length ≤ h'.length ∧ am_sz h ≤ am_sz h'
theorem am_le.rf (h : List am_C) : am_le h h := ⟨Nat.le_refl _, Nat.le_refl _⟩
theorem am_le.tr {a b c : List am_C} (h1 : am_le a b) (h2 : am_le b c) : am_le a c := ⟨Nat.le_trans h1.1 h2.1, Nat.le_trans h1.2 h2.2⟩
theorem am_le.set {c c' : am_C} {h : List am_C} {k : Nat} (e : am_z c' = am_z c) (hk : am_get h k = some c) : am_le h (am_set h k c') := ⟨by rw [am_len_set]; exact Nat.le_refl _, by rw [am_sz_set e h k hk]; exact Nat.le_refl _⟩
theorem am_le.push (h : List am_C) (c : am_C) : am_le h (h ++ [c]) := ⟨by simp, by rw [am_sz_push]; omega⟩
set_option maxHeartbeats 4000000 in
theorem am_s_le {df : Nat → List Value} {ft : Nat → Nat → FieldType} {i : Jvm.ClassFile.Instr} {nx a b : Nat} {k : Int32} {l : Int64} {ls ls' : List (Option Value)} {st st' : List Value} {h h' : List am_C} {g : Prop} {pc' : Nat} (hs : am_s df ft i nx a b k l ls st h = some (g, pc', ls', st', h')) : am_le h h' := by
  cases i
  all_goals simp only [am_s, am_lda, am_ldi, am_ldl, am_sti, am_stl, am_sta, am_cst, am_i2, am_i1, am_acmp, am_ald, am_lald, am_aald, am_iast, am_bast, am_last, am_aast, am_alen, am_newa, am_newq, am_getf, am_getc, am_chk, am_cpy] at hs
  all_goals first
    | (cases hs; done)
    | (cases hs; exact am_le.rf _)
    | skip
  all_goals (repeat' split at hs)
  all_goals first
    | (cases hs; done)
    | (cases hs; exact am_le.rf _)
    | (cases hs; exact am_le.push _ _)
    | (cases hs; refine am_le.set ?_ (by assumption); simp [am_z, am_len_set]; done)
    | (cases hs; have e := Nat.eq_of_beq_eq_true (by assumption); subst e; refine am_le.set ?_ (by assumption); simp [am_z, am_len_set]; done)
    | skip
