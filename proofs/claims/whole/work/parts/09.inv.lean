/-! ===== scopes, locals; what a step of each kind says of its start ===== -/
def am_ss (n : Nat) (st : List Value) : Prop := ∀ v ∈ st, am_sc n v
theorem am_ss.tl {n : Nat} {v : Value} {st : List Value} (h : am_ss n (v :: st)) : am_ss n st := fun w hw => h w (List.mem_cons_of_mem _ hw)
theorem am_ss.hd {n : Nat} {v : Value} {st : List Value} (h : am_ss n (v :: st)) : am_sc n v := h v List.mem_cons_self
theorem am_ss.cn {n : Nat} {v : Value} {st : List Value} (hv : am_sc n v) (h : am_ss n st) : am_ss n (v :: st) := List.forall_mem_cons.mpr ⟨hv, h⟩
theorem am_ss.le {n n' : Nat} {st : List Value} (e : n ≤ n') (h : am_ss n st) : am_ss n' st := fun v hv => am_sc_le e (h v hv)
theorem am_t_cat (ρ : Nat → Nat) (v : Value) : (am_t ρ v).category = v.category := by cases v <;> rfl
def am_lok (ρ : Nat → Nat) (n mL : Nat) (ls : List (Option Value)) (lsC : Array Slot) : Prop := lsC.size = mL ∧ lv_wf lsC ∧ ∀ i v, am_get ls i = some (some v) → am_sc n v ∧ lsC[i]? = some (.val (am_t ρ v))
def am_ll (ρ : Nat → Nat) : Nat → List (Option Value) → List (Nat × Value)
  | _, [] => []
  | i, some v :: l => (i, am_t ρ v) :: am_ll ρ (i + 1) l
  | i, none :: l => am_ll ρ (i + 1) l
theorem am_ll_in {ρ : Nat → Nat} : ∀ (l : List (Option Value)) (i j : Nat) (v : Value), am_get l j = some (some v) → (i + j, am_t ρ v) ∈ am_ll ρ i l
  | [], i, j, v, h => by simp [am_get] at h
  | x :: l, i, 0, v, h => by
    simp only [am_get, Option.some.injEq] at h
    subst h
    simp [am_ll]
  | x :: l, i, j + 1, v, h => by
    simp only [am_get] at h
    have := am_ll_in (ρ := ρ) l (i + 1) j v h
    rw [show i + (j + 1) = i + 1 + j by omega]
    cases x with
    | none => exact this
    | some x => exact List.mem_cons_of_mem _ this
theorem am_ll_out {ρ : Nat → Nat} : ∀ (l : List (Option Value)) (i : Nat) (q : Nat × Value), q ∈ am_ll ρ i l → ∃ j v, q = (i + j, am_t ρ v) ∧ am_get l j = some (some v)
  | [], i, q, h => by simp [am_ll] at h
  | none :: l, i, q, h => by
    obtain ⟨j, v, e, hj⟩ := am_ll_out l (i + 1) q h
    exact ⟨j + 1, v, by rw [e, show i + (j + 1) = i + 1 + j by omega], hj⟩
  | some x :: l, i, q, h => by
    rcases List.mem_cons.mp h with rfl | h
    · exact ⟨0, x, rfl, rfl⟩
    · obtain ⟨j, v, e, hj⟩ := am_ll_out l (i + 1) q h
      exact ⟨j + 1, v, by rw [e, show i + (j + 1) = i + 1 + j by omega], hj⟩
theorem am_lok.has {ρ : Nat → Nat} {n mL : Nat} {ls : List (Option Value)} {lsC : Array Slot} (h : am_lok ρ n mL ls lsC) : lv_has lsC mL (am_ll ρ 0 ls) := by
  refine ⟨h.1, h.2.1, fun q hq => ?_⟩
  obtain ⟨j, v, rfl, hj⟩ := am_ll_out _ _ _ hq
  rw [Nat.zero_add]
  exact (h.2.2 j v hj).2
theorem am_kill_some {x : Option Value} {w : Value} (h : am_kill x = some w) : x = some w ∧ ¬ w.category = 2 := by
  cases x with
  | none => cases h
  | some v => cases v <;> simp only [am_kill] at h <;> cases h <;> exact ⟨rfl, by simp [Value.category]⟩
theorem am_st1_get : ∀ (l : List (Option Value)) (a : Nat) (v : Value) (i : Nat) (w : Value), am_get (am_st1 l a v) i = some (some w) → (i = a ∧ w = v) ∨ (i ≠ a ∧ am_get l i = some (some w) ∧ (i + 1 = a → ¬ w.category = 2))
  | [], a, v, i, w, h => by simp [am_st1, am_get] at h
  | x :: l, 0, v, 0, w, h => by
    simp only [am_st1, am_get, Option.some.injEq] at h
    exact Or.inl ⟨rfl, h.symm⟩
  | x :: l, 0, v, i + 1, w, h => Or.inr ⟨by omega, h, fun e => by omega⟩
  | x :: l, 1, v, 0, w, h => by
    simp only [am_st1, am_get, Option.some.injEq] at h
    obtain ⟨h1, h2⟩ := am_kill_some h
    exact Or.inr ⟨by omega, by rw [h1]; rfl, fun _ => h2⟩
  | x :: l, a + 2, v, 0, w, h => by
    simp only [am_st1, am_get, Option.some.injEq] at h
    exact Or.inr ⟨by omega, by rw [h]; rfl, fun e => by omega⟩
  | x :: l, a + 1, v, i + 1, w, h => by
    simp only [am_st1, am_get] at h
    rcases am_st1_get l a v i w h with ⟨h1, h2⟩ | ⟨h1, h2, h3⟩
    · exact Or.inl ⟨by omega, h2⟩
    · exact Or.inr ⟨by omega, h2, fun e => h3 (by omega)⟩
theorem am_st2_get : ∀ (l : List (Option Value)) (a : Nat) (v : Value) (i : Nat) (w : Value), am_get (am_st2 l a v) i = some (some w) → (i = a ∧ w = v) ∨ (i ≠ a ∧ i ≠ a + 1 ∧ am_get l i = some (some w) ∧ (i + 1 = a → ¬ w.category = 2))
  | [], a, v, i, w, h => by simp [am_st2, am_get] at h
  | x :: l, 0, v, 0, w, h => by
    simp only [am_st2, am_get, Option.some.injEq] at h
    exact Or.inl ⟨rfl, h.symm⟩
  | x :: [], 0, v, i + 1, w, h => by simp [am_st2, am_get] at h
  | x :: y :: l, 0, v, 1, w, h => by simp [am_st2, am_get] at h
  | x :: y :: l, 0, v, i + 2, w, h => Or.inr ⟨by omega, by omega, h, fun e => by omega⟩
  | x :: l, 1, v, 0, w, h => by
    simp only [am_st2, am_get, Option.some.injEq] at h
    obtain ⟨h1, h2⟩ := am_kill_some h
    exact Or.inr ⟨by omega, by omega, by rw [h1]; rfl, fun _ => h2⟩
  | x :: l, a + 2, v, 0, w, h => by
    simp only [am_st2, am_get, Option.some.injEq] at h
    exact Or.inr ⟨by omega, by omega, by rw [h]; rfl, fun e => by omega⟩
  | x :: l, a + 1, v, i + 1, w, h => by
    simp only [am_st2, am_get] at h
    rcases am_st2_get l a v i w h with ⟨h1, h2⟩ | ⟨h1, h1', h2, h3⟩
    · exact Or.inl ⟨by omega, h2⟩
    · exact Or.inr ⟨by omega, by omega, h2, fun e => h3 (by omega)⟩
theorem am_lok.s1 {ρ : Nat → Nat} {n mL a : Nat} {v : Value} {ls : List (Option Value)} {lsC lsC' : Array Slot} (h : am_lok ρ n mL ls lsC) (hv : am_sc n v) (h' : lv_has lsC' mL ((a, am_t ρ v) :: (am_ll ρ 0 ls).filter (fun q => !(q.1 == a) && !(q.1 + 1 == a && q.2.category == 2)))) : am_lok ρ n mL (am_st1 ls a v) lsC' := by
  refine ⟨h'.1, h'.2.1, fun i w hw => ?_⟩
  rcases am_st1_get _ _ _ _ _ hw with ⟨rfl, rfl⟩ | ⟨h1, h2, h3⟩
  · exact ⟨hv, h'.2.2 _ List.mem_cons_self⟩
  · refine ⟨(h.2.2 i w h2).1, h'.2.2 (i, am_t ρ w) (List.mem_cons_of_mem _ (List.mem_filter.mpr ⟨?_, ?_⟩))⟩
    · have := am_ll_in (ρ := ρ) ls 0 i w h2
      rwa [Nat.zero_add] at this
    · by_cases e : i + 1 = a
      · simp [h1, e, am_t_cat, h3 e]
      · simp [h1, e]
theorem am_lok.s2 {ρ : Nat → Nat} {n mL a : Nat} {v : Value} {ls : List (Option Value)} {lsC lsC' : Array Slot} (h : am_lok ρ n mL ls lsC) (hv : am_sc n v) (h' : lv_has lsC' mL ((a, am_t ρ v) :: (am_ll ρ 0 ls).filter (fun q => !(q.1 == a) && (!(q.1 == a + 1) && !(q.1 + 1 == a && q.2.category == 2))))) : am_lok ρ n mL (am_st2 ls a v) lsC' := by
  refine ⟨h'.1, h'.2.1, fun i w hw => ?_⟩
  rcases am_st2_get _ _ _ _ _ hw with ⟨rfl, rfl⟩ | ⟨h1, h1', h2, h3⟩
  · exact ⟨hv, h'.2.2 _ List.mem_cons_self⟩
  · refine ⟨(h.2.2 i w h2).1, h'.2.2 (i, am_t ρ w) (List.mem_cons_of_mem _ (List.mem_filter.mpr ⟨?_, ?_⟩))⟩
    · have := am_ll_in (ρ := ρ) ls 0 i w h2
      rwa [Nat.zero_add] at this
    · by_cases e : i + 1 = a
      · simp [h1, h1', e, am_t_cat, h3 e]
      · simp [h1, h1', e]
/-! the cells that are there from the start -/
def am_dm (L : Nat) (xs : Nat → Int32) (h : List am_C) : Prop := 6 ≤ h.length ∧ am_get h 0 = some (.inl (4, (0, .inr (.inr (.inr (.inr fun _ => none)))))) ∧ (∀ k, 1 ≤ k → k ≤ 4 → am_get h k = some (.inr (99, []))) ∧ am_get h 5 = some (.inl (0, (L, .inl xs)))
theorem am_dm.low {L : Nat} {xs : Nat → Int32} {h : List am_C} (hd : am_dm L xs h) {r : Nat} {c : am_C} (hr : r < 6) (hc : am_get h r = some c) : (r = 0 ∧ c = .inl (4, (0, .inr (.inr (.inr (.inr fun _ => none)))))) ∨ (1 ≤ r ∧ r ≤ 4 ∧ c = .inr (99, [])) ∨ (r = 5 ∧ c = .inl (0, (L, .inl xs))) := by
  by_cases h0 : r = 0
  · subst h0
    exact Or.inl ⟨rfl, Option.some.inj (hc.symm.trans hd.2.1)⟩
  · by_cases h5 : r = 5
    · subst h5
      exact Or.inr (Or.inr ⟨rfl, Option.some.inj (hc.symm.trans hd.2.2.2)⟩)
    · exact Or.inr (Or.inl ⟨by omega, by omega, Option.some.inj (hc.symm.trans (hd.2.2.1 r (by omega) (by omega)))⟩)
theorem am_get_set_ne {α : Type} (l : List α) {r k : Nat} (v : α) (h : r ≠ k) : am_get (am_set l r v) k = am_get l k := by
  rw [am_get_eq, am_get_eq, am_set_eq, List.getElem?_set_ne h]
theorem am_get_push {α : Type} (l : List α) {k : Nat} (v : α) (h : k < l.length) : am_get (l ++ [v]) k = am_get l k := by
  rw [am_get_eq, am_get_eq, List.getElem?_append_left h]
theorem am_get_lt {α : Type} {l : List α} {k : Nat} {v : α} (h : am_get l k = some v) : k < l.length := by
  rw [am_get_eq] at h
  exact (List.getElem?_eq_some_iff.mp h).1
theorem am_dm.set {L : Nat} {xs : Nat → Int32} {h : List am_C} (hd : am_dm L xs h) {r : Nat} (c : am_C) (hr : 6 ≤ r) : am_dm L xs (am_set h r c) :=
  ⟨by rw [am_len_set]; exact hd.1, by rw [am_get_set_ne _ _ (by omega)]; exact hd.2.1, fun k h1 h2 => by rw [am_get_set_ne _ _ (by omega)]; exact hd.2.2.1 k h1 h2, by rw [am_get_set_ne _ _ (by omega)]; exact hd.2.2.2⟩
theorem am_dm.push {L : Nat} {xs : Nat → Int32} {h : List am_C} (hd : am_dm L xs h) (c : am_C) : am_dm L xs (h ++ [c]) := by
  have h6 := hd.1
  exact ⟨by simp; omega, by rw [am_get_push _ _ (by omega)]; exact hd.2.1, fun k h1 h2 => by rw [am_get_push _ _ (by omega)]; exact hd.2.2.1 k h1 h2, by rw [am_get_push _ _ (by omega)]; exact hd.2.2.2⟩
theorem am_mem_get {α : Type} {l : List α} {k : Nat} {v : α} (h : am_get l k = some v) : v ∈ l := by
  rw [am_get_eq] at h
  exact List.mem_of_getElem? h
