/-! ===== the abstract machine's runs, and the judgement Go over them ===== -/
/-- n: how many steps and calls at most; the answer and the heap behind the method -/
noncomputable def am_run : Nat → Nat → Nat → List (Option Value) → List Value → List am_C → Option (Option Value × List am_C)
  | 0, _, _, _, _, _ => none
  | n + 1, m, pc, ls, st, h =>
    match am_E m pc with
    | none => none
    | some (i, nx, a, b, c, k, l) =>
      match am_kd i b with
      | 0 => (match am_s am_df am_ft i nx a b k l ls st h with
        | some (g, pc', ls', st', h') => @ite _ g (Classical.propDecidable g) (am_run n m pc' ls' st' h') none
        | none => none)
      | 1 => (match am_call am_kc am_ml a b c st h with
        | some (j, as, rest) => (match am_run n j 0 (am_ent (am_ml j) as) [] h with
          | some (r, h1) => am_run n m nx ls (r.toList ++ rest) h1
          | none => none)
        | none => none)
      | 2 => (match am_ret i a st with
        | some (g, r) => @ite _ g (Classical.propDecidable g) (some (r, h)) none
        | none => none)
      | _ => none
/-- from here the method comes to an end with Q -/
def Go (m pc : Nat) (ls : List (Option Value)) (st : List Value) (h : List am_C) (Q : Option Value → List am_C → Prop) : Prop :=
  ∃ (n : Nat) (r : Option Value) (h' : List am_C), am_run n m pc ls st h = some (r, h') ∧ Q r h'
/-- a whole call -/
def Do (m : Nat) (as : List Value) (h : List am_C) (Q : Option Value → List am_C → Prop) : Prop := Go m 0 (am_ent (am_ml m) as) [] h Q
theorem am_more : ∀ (n : Nat) {m pc : Nat} {ls : List (Option Value)} {st : List Value} {h : List am_C} {x : Option Value × List am_C}, am_run n m pc ls st h = some x → am_run (n + 1) m pc ls st h = some x := by
  intro n
  induction n with
  | zero => intro m pc ls st h x hx; simp [am_run] at hx
  | succ n ih =>
    intro m pc ls st h x hx
    rw [am_run] at hx
    rw [am_run]
    cases he : am_E m pc with
    | none => rw [he] at hx; cases hx
    | some e =>
      obtain ⟨i, nx, a, b, c, k, l⟩ := e
      rw [he] at hx
      dsimp only at hx ⊢
      match hk : am_kd i b with
      | 0 =>
        rw [hk] at hx
        try dsimp only at hx ⊢
        cases hs : am_s am_df am_ft i nx a b k l ls st h with
        | none => rw [hs] at hx; cases hx
        | some o =>
          obtain ⟨g, pc', ls', st', h'⟩ := o
          rw [hs] at hx
          try dsimp only at hx ⊢
          by_cases hg : g
          · rw [if_pos hg] at hx ⊢; exact ih hx
          · rw [if_neg hg] at hx; cases hx
      | 1 =>
        rw [hk] at hx
        try dsimp only at hx ⊢
        cases hs : am_call am_kc am_ml a b c st h with
        | none => rw [hs] at hx; cases hx
        | some o =>
          obtain ⟨j, as, rest⟩ := o
          rw [hs] at hx
          try dsimp only at hx ⊢
          cases hr : am_run n j 0 (am_ent (am_ml j) as) [] h with
          | none => rw [hr] at hx; cases hx
          | some o =>
            obtain ⟨r, h1⟩ := o
            rw [hr] at hx
            rw [ih hr]
            exact ih hx
      | 2 =>
        rw [hk] at hx
        try dsimp only at hx ⊢
        cases hs : am_ret i a st with
        | none => rw [hs] at hx; cases hx
        | some o =>
          obtain ⟨g, r⟩ := o
          rw [hs] at hx
          try dsimp only at hx ⊢
          by_cases hg : g
          · rw [if_pos hg] at hx ⊢; exact hx
          · rw [if_neg hg] at hx; cases hx
      | k + 3 => rw [hk] at hx; cases hx
theorem am_up {n k m pc : Nat} {ls : List (Option Value)} {st : List Value} {h : List am_C} {x : Option Value × List am_C} (hx : am_run n m pc ls st h = some x) (hk : n ≤ k) : am_run k m pc ls st h = some x := by
  induction hk with
  | refl => exact hx
  | step _ ih => exact am_more _ ih
theorem Go.mono {m pc : Nat} {ls : List (Option Value)} {st : List Value} {h : List am_C} {Q Q' : Option Value → List am_C → Prop} (k : Go m pc ls st h Q) (hQ : ∀ r h', Q r h' → Q' r h') : Go m pc ls st h Q' := by
  obtain ⟨n, r, h', h1, h2⟩ := k
  exact ⟨n, r, h', h1, hQ r h' h2⟩
/-- a step -/
theorem go_s {m pc pc' : Nat} {ls ls' : List (Option Value)} {st st' : List Value} {h h' : List am_C} {Q : Option Value → List am_C → Prop} {i : Jvm.ClassFile.Instr} {nx a b c : Nat} {k : Int32} {l : Int64} {g : Prop} (he : am_E m pc = some (i, nx, a, b, c, k, l)) (hk : am_kd i b = 0) (hs : am_s am_df am_ft i nx a b k l ls st h = some (g, pc', ls', st', h')) (hg : g) (kk : Go m pc' ls' st' h' Q) : Go m pc ls st h Q := by
  obtain ⟨n, r, h2, h3, h4⟩ := kk
  refine ⟨n + 1, r, h2, ?_, h4⟩
  rw [am_run]
  simp only [he, hk, hs]
  rw [if_pos hg]
  exact h3
/-- a call -/
theorem go_c {m pc j : Nat} {ls : List (Option Value)} {st as rest : List Value} {h : List am_C} {Q Q1 : Option Value → List am_C → Prop} {i : Jvm.ClassFile.Instr} {nx a b c : Nat} {k : Int32} {l : Int64} (he : am_E m pc = some (i, nx, a, b, c, k, l)) (hk : am_kd i b = 1) (hs : am_call am_kc am_ml a b c st h = some (j, as, rest)) (hc : Do j as h Q1) (kk : ∀ r h1, Q1 r h1 → Go m nx ls (r.toList ++ rest) h1 Q) : Go m pc ls st h Q := by
  obtain ⟨n1, r1, h1, h2, h3⟩ := hc
  obtain ⟨n2, r2, h4, h5, h6⟩ := kk r1 h1 h3
  refine ⟨n1 + n2 + 1, r2, h4, ?_, h6⟩
  rw [am_run]
  simp only [he, hk, hs]
  rw [am_up h2 (Nat.le_add_right n1 n2)]
  exact am_up h5 (Nat.le_add_left n2 n1)
/-- an end -/
theorem go_r {m pc : Nat} {ls : List (Option Value)} {st : List Value} {h : List am_C} {Q : Option Value → List am_C → Prop} {i : Jvm.ClassFile.Instr} {nx a b c : Nat} {k : Int32} {l : Int64} {g : Prop} {r : Option Value} (he : am_E m pc = some (i, nx, a, b, c, k, l)) (hk : am_kd i b = 2) (hs : am_ret i a st = some (g, r)) (hg : g) (kk : Q r h) : Go m pc ls st h Q := by
  refine ⟨1, r, h, ?_, kk⟩
  rw [am_run]
  simp only [he, hk, hs]
  rw [if_pos hg]
/-- a branch -/
theorem go_if {c : Prop} {d : Decidable c} {m a b : Nat} {ls : List (Option Value)} {st : List Value} {h : List am_C} {Q : Option Value → List am_C → Prop} (ka : c → Go m a ls st h Q) (kb : ¬ c → Go m b ls st h Q) : Go m (@ite _ c d a b) ls st h Q := by
  by_cases hc : c
  · rw [if_pos hc]; exact ka hc
  · rw [if_neg hc]; exact kb hc
