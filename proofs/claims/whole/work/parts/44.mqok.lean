/-! ===== what a question that was read is like ===== -/
def isLd (x : Nat) : Prop := (48 ≤ x ∧ x ≤ 57) ∨ (97 ≤ x ∧ x ≤ 122)
def wok (w : List Nat) : Prop := 0 < w.length ∧ w.length ≤ 12 ∧ ∀ x ∈ w, isLd x
theorem ltr_ld {b : Nat} (h : ltr b ≠ 0) : isLd (ltr b) := by
  simp only [ltr, isLd] at h ⊢
  split
  · omega
  · rename_i h1
    rw [if_neg h1] at h
    split
    · rename_i h2; omega
    · rename_i h2
      rw [if_neg h2] at h
      omega
theorem lq_ld {P : tx_P} {p : Nat} (h : lq P p ≠ 0) : isLd (lq P p) := by
  rw [lq] at h ⊢
  split
  · rename_i h1
    rw [if_pos h1] at h
    exact ltr_ld h
  · rename_i h1
    rw [if_neg h1] at h
    exact absurd rfl h
theorem wl_in (P : tx_P) : ∀ j p, j < wl P p → lq P (p + j) ≠ 0
  | 0, p, h => fun q => by rw [wl_no (P := P) (p := p) q] at h; omega
  | j + 1, p, h => by
    have hz : lq P p ≠ 0 := fun q => by rw [wl_no q] at h; omega
    have := wl_in P j (p + 1) (by rw [wl_yes hz] at h; omega)
    rw [show p + (j + 1) = p + 1 + j by omega]
    exact this
theorem wrd_ok {P : tx_P} {p r : Nat} (h0 : 0 < r) (h12 : r ≤ 12) (hr : r ≤ wl P p) : wok (wrd P p r) := by
  refine ⟨by rw [wrd_len]; exact h0, by rw [wrd_len]; exact h12, fun x hx => ?_⟩
  obtain ⟨j, hj, rfl⟩ := List.mem_map.mp hx
  exact lq_ld (wl_in P j p (by have := List.mem_range.mp hj; omega))
def woks (n : Nat) (wq : Nat → List Nat) : Prop := ∀ j, j < n → wok (wq j)
theorem woks.up {n : Nat} {wq : Nat → List Nat} {w : List Nat} (h : woks n wq) (hw : wok w) : woks (n + 1) (va_up wq n w) := by
  intro j hj
  by_cases e : j = n
  · subst e; rw [va_up_self]; exact hw
  · rw [va_up_ne _ _ e]; exact h j (by omega)
theorem phF_ok (P : tx_P) (b : Nat) : ∀ (f p nw : Nat) (wq : Nat → List Nat) (y : Nat × Nat × (Nat → List Nat)), phF P b f p nw wq = .inr y → woks nw wq → nw ≤ y.2.1 ∧ woks y.2.1 y.2.2
  | 0, p, nw, wq, y, h, hw => by simp [phF] at h
  | f + 1, p, nw, wq, y, h, hw => by
    rw [phF] at h
    split at h
    · injection h with h
      rw [← h]
      exact ⟨Nat.le_refl _, hw⟩
    · split at h
      · simp at h
      · split at h
        · simp at h
        · rename_i h1 h2
          have := phF_ok P b f _ _ _ y h (hw.up (wrd_ok (by omega) (by omega) (Nat.le_refl _)))
          exact ⟨by omega, this.2⟩
theorem paG_ok {P : tx_P} {p row nw : Nat} {neg : Bool} {wq : Nat → List Nat} {y : Nat × tx_q × Nat × (Nat → List Nat)} (h : paG P p row neg nw wq = .inr y) (hw : woks nw wq) : y.2.1.1 = row ∧ y.2.1.2.1 < 3 ∧ y.2.1.2.2.2.1 = nw ∧ nw + y.2.1.2.2.2.2 = y.2.2.1 ∧ 1 ≤ y.2.1.2.2.2.2 ∧ (y.2.1.2.1 ≠ 2 → y.2.1.2.2.2.2 = 1) ∧ woks y.2.2.1 y.2.2.2 := by
  rw [paG] at h
  split at h
  · split at h
    · simp at h
    · rename_i z hz
      have h1 := phF_ok P nw 97 _ _ _ _ hz hw
      have h2 := phF_inr P nw 97 _ _ _ _ hz
      injection h with h
      rw [← h]
      refine ⟨rfl, by show 2 < 3; decide, rfl, ?_, ?_, fun q => absurd rfl q, h1.2⟩
      · show nw + (z.2.1 - nw) = z.2.1
        omega
      · show 1 ≤ z.2.1 - nw
        omega
  · split at h
    · simp at h
    · split at h
      · simp at h
      · rename_i h1 h2
        have hok : wok (wrd P p (wl P p)) := wrd_ok (by omega) (by omega) (Nat.le_refl _)
        split at h
        · injection h with h
          rw [← h]
          exact ⟨rfl, by show 1 < 3; decide, rfl, rfl, Nat.le_refl _, fun _ => rfl, hw.up hok⟩
        · injection h with h
          rw [← h]
          exact ⟨rfl, by show 0 < 3; decide, rfl, rfl, Nat.le_refl _, fun _ => rfl, hw.up hok⟩
theorem paF_ok {P : tx_P} {p row nw : Nat} {wq : Nat → List Nat} {y : Nat × tx_q × Nat × (Nat → List Nat)} (h : paF P p row nw wq = .inr y) (hw : woks nw wq) : y.2.1.1 = row ∧ y.2.1.2.1 < 3 ∧ y.2.1.2.2.2.1 = nw ∧ nw + y.2.1.2.2.2.2 = y.2.2.1 ∧ 1 ≤ y.2.1.2.2.2.2 ∧ (y.2.1.2.1 ≠ 2 → y.2.1.2.2.2.2 = 1) ∧ woks y.2.2.1 y.2.2.2 := by
  rw [paF] at h
  split at h
  · exact paG_ok h hw
  · exact paG_ok h hw
def qinv (Q : tx_Q) (rows : Nat) : Prop := (∀ i, i < Q.1 → (Q.2.1 i).2.2.2.1 + (Q.2.1 i).2.2.2.2 ≤ Q.2.2.1 ∧ (Q.2.1 i).2.1 < 3 ∧ 1 ≤ (Q.2.1 i).2.2.2.2 ∧ (Q.2.1 i).1 < rows ∧ ((Q.2.1 i).2.1 ≠ 2 → (Q.2.1 i).2.2.2.2 = 1)) ∧ Q.1 ≤ Q.2.2.1 ∧ (∀ i j, i < j → j < Q.1 → (Q.2.1 i).2.2.2.1 + (Q.2.1 i).2.2.2.2 ≤ (Q.2.1 j).2.2.2.1 ∧ (Q.2.1 i).1 ≤ (Q.2.1 j).1) ∧ (∀ r, r < rows → ∃ i, i < Q.1 ∧ (Q.2.1 i).1 = r) ∧ woks Q.2.2.1 Q.2.2.2
theorem qinv.up {Q : tx_Q} {b row nw : Nat} {q : tx_q} {wq : Nat → List Nat} (h : qinv Q b) (hb : b = row ∨ b = row + 1) (e1 : q.1 = row) (e2 : q.2.1 < 3) (e3 : q.2.2.2.1 = Q.2.2.1) (e4 : Q.2.2.1 + q.2.2.2.2 = nw) (e5 : 1 ≤ q.2.2.2.2) (e6 : q.2.1 ≠ 2 → q.2.2.2.2 = 1) (e7 : woks nw wq) : qinv (Q.1 + 1, va_up Q.2.1 Q.1 q, nw, wq) (row + 1) := by
  obtain ⟨h1, h2, h3, h4, h5⟩ := h
  refine ⟨fun i hi => ?_, by show Q.1 + 1 ≤ nw; omega, fun i j hij hj => ?_, fun r hr => ?_, e7⟩
  · have hi' : i < Q.1 + 1 := hi
    show (va_up Q.2.1 Q.1 q i).2.2.2.1 + (va_up Q.2.1 Q.1 q i).2.2.2.2 ≤ nw ∧ (va_up Q.2.1 Q.1 q i).2.1 < 3 ∧ 1 ≤ (va_up Q.2.1 Q.1 q i).2.2.2.2 ∧ (va_up Q.2.1 Q.1 q i).1 < row + 1 ∧ ((va_up Q.2.1 Q.1 q i).2.1 ≠ 2 → (va_up Q.2.1 Q.1 q i).2.2.2.2 = 1)
    by_cases e : i = Q.1
    · rw [e, va_up_self]
      exact ⟨by omega, e2, e5, by omega, e6⟩
    · rw [va_up_ne _ _ e]
      obtain ⟨k1, k2, k3, k4, k5⟩ := h1 i (by omega)
      exact ⟨by omega, k2, k3, by omega, k5⟩
  · have hj' : j < Q.1 + 1 := hj
    show (va_up Q.2.1 Q.1 q i).2.2.2.1 + (va_up Q.2.1 Q.1 q i).2.2.2.2 ≤ (va_up Q.2.1 Q.1 q j).2.2.2.1 ∧ (va_up Q.2.1 Q.1 q i).1 ≤ (va_up Q.2.1 Q.1 q j).1
    rw [va_up_ne _ _ (show i ≠ Q.1 by omega)]
    by_cases e : j = Q.1
    · rw [e, va_up_self]
      obtain ⟨k1, k2, k3, k4, k5⟩ := h1 i (by omega)
      exact ⟨by omega, by omega⟩
    · rw [va_up_ne _ _ e]
      exact h3 i j hij (by omega)
  · by_cases e : r = row
    · refine ⟨Q.1, Nat.lt_succ_self _, ?_⟩
      show (va_up Q.2.1 Q.1 q Q.1).1 = r
      rw [va_up_self, e1, e]
    · obtain ⟨i, i1, i2⟩ := h4 r (by omega)
      refine ⟨i, Nat.lt_succ_of_lt i1, ?_⟩
      show (va_up Q.2.1 Q.1 q i).1 = r
      rw [va_up_ne _ _ (by omega)]
      exact i2
theorem quF_ok (P : tx_P) : ∀ (f p row : Nat) (wanted : Bool) (Q : tx_Q) (y : tx_Q × Nat), quF P f p row wanted Q = .inr y → qinv Q (if wanted = true then row else row + 1) → qinv y.1 y.2
  | 0, p, row, wanted, Q, y, h, hq => by simp [quF] at h
  | f + 1, p, row, wanted, Q, y, h, hq => by
    rw [quF] at h
    split at h
    · split at h
      · simp at h
      · rename_i h1 h2
        injection h with h
        rw [← h]
        rw [if_neg h2] at hq
        exact hq
    · split at h
      · rename_i h1 h2
        rw [if_neg (by rw [h2.1]; decide)] at hq
        exact quF_ok P f _ _ _ _ y h (by rw [if_pos rfl]; exact hq)
      · split at h
        · simp at h
        · rename_i z hz
          obtain ⟨k1, k2, k3, k4, k5, k6, k7⟩ := paF_ok hz hq.2.2.2.2
          refine quF_ok P f _ _ _ _ y h ?_
          rw [if_neg (by decide)]
          refine hq.up ?_ k1 k2 k3 k4 k5 k6 k7
          split
          · exact Or.inl rfl
          · exact Or.inr rfl
theorem quF_inv {P : tx_P} {y : tx_Q × Nat} (h : quF P 97 0 0 true q00 = .inr y) : qinv y.1 y.2 :=
  quF_ok P 97 0 0 true q00 y h ⟨fun i hi => absurd hi (Nat.not_lt_zero i), Nat.le_refl _, fun i j _ hj => absurd hj (Nat.not_lt_zero j), fun r hr => absurd hr (Nat.not_lt_zero r), fun j hj => absurd hj (Nat.not_lt_zero j)⟩
theorem qinv.fit {Q : tx_Q} {rows : Nat} (h : qinv Q rows) (hr : rows ≤ 97) : qfit Q := fun i hi => ⟨(h.1 i hi).1, (h.1 i hi).2.1, (h.1 i hi).2.2.1, by have := (h.1 i hi).2.2.2.1; omega⟩
/-! ===== where an answer comes to stand ===== -/
noncomputable def psF (P : Nat → Prop) : Nat → Nat
  | 0 => 0
  | k + 1 => ifp (P k) (psF P k) (k + 1)
theorem psF_le (P : Nat → Prop) : ∀ n, psF P n ≤ n
  | 0 => Nat.le_refl _
  | k + 1 => by
    have := psF_le P k
    rw [psF]
    by_cases q : P k
    · rw [ifp_t q]; omega
    · rw [ifp_f q]; omega
def inF {α : Type} (f : Nat → α) (p : Nat) (v : α) (i : Nat) : α := if i < p then f i else if i = p then v else f (i - 1)
theorem inF_lt {α : Type} {f : Nat → α} {p i : Nat} {v : α} (h : i < p) : inF f p v i = f i := if_pos h
theorem inF_eq {α : Type} {f : Nat → α} {p : Nat} {v : α} : inF f p v p = v := by rw [inF, if_neg (Nat.lt_irrefl _), if_pos rfl]
theorem inF_gt {α : Type} {f : Nat → α} {p i : Nat} {v : α} (h : p < i) : inF f p v i = f (i - 1) := by rw [inF, if_neg (by omega), if_neg (by omega)]
/-- f, with a gap at p; n of them -/
def gap {α : Type} (f g : Nat → α) (p n : Nat) : Prop := (∀ i, i < p → g i = f i) ∧ ∀ i, p < i → i ≤ n → g i = f (i - 1)
theorem gap.fill {α : Type} {f g g' : Nat → α} {p n : Nat} {v : α} (h : gap f g p n) (hs : g' p = v) (hn : ∀ i, i ≠ p → g' i = g i) : ∀ i, i < n + 1 → g' i = inF f p v i := by
  intro i hi
  rcases Nat.lt_trichotomy i p with q | q | q
  · rw [inF_lt q, hn i (by omega), h.1 i q]
  · rw [q, inF_eq, hs]
  · rw [inF_gt q, hn i (by omega), h.2 i q (by omega)]
theorem gap.step {α : Type} {f g g' : Nat → α} {p n : Nat} (h : gap f g (p + 1) n) (hs : g' (p + 1) = g p) (hn : ∀ i, i ≠ p + 1 → g' i = g i) : gap f g' p n := by
  refine ⟨fun i hi => by rw [hn i (by omega), h.1 i (by omega)], fun i h1 h2 => ?_⟩
  by_cases e : i = p + 1
  · rw [e, hs, h.1 p (by omega)]; rfl
  · rw [hn i e, h.2 i (by omega) h2]
noncomputable def insA (A : tx_A) (t : Nat) (s : Int64) : tx_A := (A.1 + 1, inF A.2.1 (psF (fun j => A.2.2 j < s) A.1) t, inF A.2.2 (psF (fun j => A.2.2 j < s) A.1) s)
noncomputable def akF (E : Nat → List Nat → Option (List Nat)) (X : tx_X) (Q : tx_Q) (rows l : Nat) (f : Int32) : Nat → tx_A
  | 0 => (0, fun _ => 0, fun _ => 0)
  | t + 1 => ifp (askedP X l t f ∧ ∃ r, r < rows ∧ rwQ E X l t Q r) (insA (akF E X Q rows l f t) t (scF E X l f t (trF E l Q Q.1) (trF E l Q Q.1).length)) (akF E X Q rows l f t)
theorem akF_le (E : Nat → List Nat → Option (List Nat)) (X : tx_X) (Q : tx_Q) (rows l : Nat) (f : Int32) : ∀ t, (akF E X Q rows l f t).1 ≤ t
  | 0 => Nat.le_refl _
  | t + 1 => by
    have := akF_le E X Q rows l f t
    rw [akF]
    by_cases q : askedP X l t f ∧ ∃ r, r < rows ∧ rwQ E X l t Q r
    · rw [ifp_t q]; exact Nat.succ_le_succ this
    · rw [ifp_f q]; omega
noncomputable def spAsk (Z : tx_Z) (x f : Int32) : Int32 × tx_Z := ifp (isL x ∧ -1 ≤ f ∧ f < 4) (match quF (zP Z) 97 0 0 true q00 with
  | .inl g => (-10 - nI g, z0 Z)
  | .inr y => (nI (akF (nE (zN Z)) (zX Z) y.1 y.2 x.toNatClampNeg f (xnt (zX Z))).1, (((zP Z).1, 0), zN Z, zX Z, akF (nE (zN Z)) (zX Z) y.1 y.2 x.toNatClampNeg f (xnt (zX Z)), zL Z, zS Z))) (-1, Z)
