/-! ===== the parts of a question ===== -/
/-- row, kind (0 word, 1 beginning, 2 phrase), without, first word, how many words -/
abbrev tx_q : Type := Nat × Nat × Bool × Nat × Nat
/-- parts, words -/
abbrev tx_Q : Type := Nat × (Nat → tx_q) × Nat × (Nat → List Nat)
/-- the words of a phrase; b: how many words there were before it -/
def phF (P : tx_P) (b : Nat) : Nat → Nat → Nat → (Nat → List Nat) → Nat ⊕ (Nat × Nat × (Nat → List Nat))
  | 0, p, _, _ => .inl p
  | f + 1, p, nw, wq =>
    if sy P (sk P p) = 34 ∧ b < nw then .inr (sk P p + 1, nw, wq)
    else if wl P (sk P p) = 0 then .inl (sk P p)
    else if 12 < wl P (sk P p) then .inl (sk P p + 12)
    else phF P b f (sk P p + wl P (sk P p)) (nw + 1) (va_up wq nw (wrd P (sk P p) (wl P (sk P p))))
/-- a part behind its sign - -/
def paG (P : tx_P) (p row : Nat) (neg : Bool) (nw : Nat) (wq : Nat → List Nat) : Nat ⊕ (Nat × tx_q × Nat × (Nat → List Nat)) :=
  if sy P p = 34 then
    match phF P nw 97 (p + 1) nw wq with
    | .inl f => .inl f
    | .inr y => .inr (y.1, (row, 2, neg, nw, y.2.1 - nw), y.2.1, y.2.2)
  else if wl P p = 0 then .inl p
  else if 12 < wl P p then .inl (p + 12)
  else if sy P (p + wl P p) = 42 then .inr (p + wl P p + 1, (row, 1, neg, nw, 1), nw + 1, va_up wq nw (wrd P p (wl P p)))
  else .inr (p + wl P p, (row, 0, neg, nw, 1), nw + 1, va_up wq nw (wrd P p (wl P p)))
def paF (P : tx_P) (p row nw : Nat) (wq : Nat → List Nat) : Nat ⊕ (Nat × tx_q × Nat × (Nat → List Nat)) :=
  if sy P p = 45 then paG P (p + 1) row true nw wq else paG P p row false nw wq
def quF (P : tx_P) : Nat → Nat → Nat → Bool → tx_Q → Nat ⊕ (tx_Q × Nat)
  | 0, p, _, _, _ => .inl p
  | f + 1, p, row, wanted, Q =>
    if P.2 ≤ sk P p then (if wanted = true then .inl (sk P p) else .inr (Q, row + 1))
    else if wanted = false ∧ sy P (sk P p) = 124 then quF P f (sk P p + 1) (row + 1) true Q
    else match paF P (sk P p) row Q.2.2.1 Q.2.2.2 with
      | .inl g => .inl g
      | .inr y => quF P f y.1 row false (Q.1 + 1, va_up Q.2.1 Q.1 y.2.1, y.2.2.1, y.2.2.2)
/-- room for words -/
def bnd (P : tx_P) (nw p : Nat) : Prop := 2 * nw ≤ p ∨ (2 * nw ≤ p + 1 ∧ lq P p = 0)
theorem bnd.up {P : tx_P} {nw p p' : Nat} (h : bnd P nw p) (hp : p < p') : bnd P nw p' := Or.inl (by rcases h with h | h <;> omega)
theorem bnd.le {P : tx_P} {nw p p' : Nat} (h : bnd P nw p) (hp : p ≤ p') : bnd P nw p' := by
  rcases Nat.lt_or_ge p p' with q | q
  · exact h.up q
  · rw [show p' = p by omega]; exact h
theorem bnd.wd {P : tx_P} {nw p : Nat} (h : bnd P nw p) (hl : 0 < wl P p) : bnd P (nw + 1) (p + wl P p) ∧ 2 * nw ≤ p ∧ p < P.2 := by
  have hz : lq P p ≠ 0 := fun q => by rw [wl_no q] at hl; omega
  have h2 : 2 * nw ≤ p := by
    rcases h with h | h
    · exact h
    · exact absurd h.2 hz
  exact ⟨Or.inr ⟨by omega, wl_end P p⟩, h2, (lq_sy hz).2.2.2.2.2⟩
/-- how the reference's parts have changed -/
def frq (np : Nat) (I0 : Nat → Int32) (B0 : Nat → Nat → Int32) (μ0 : Nat → List Nat) (I : Nat → Int32) (B : Nat → Nat → Int32) (μ : Nat → List Nat) : Prop := (∀ i, i ≠ 5 → i ≠ 6 → i ≠ 7 → i ≠ 8 → I i = I0 i) ∧ (∀ i, 2 ≤ i → i ≠ 15 → B i = B0 i) ∧ (∀ i, i ≠ np → B 15 i = B0 15 i) ∧ wm B μ ∧ ∀ x, x < 4016 ∨ 4064 ≤ x → μ x = μ0 x
theorem frq.rf {np : Nat} {I : Nat → Int32} {B : Nat → Nat → Int32} {μ : Nat → List Nat} (hw : wm B μ) : frq np I B μ I B μ := ⟨fun _ _ _ _ _ => rfl, fun _ _ _ => rfl, fun _ _ => rfl, hw, fun _ _ => rfl⟩
theorem frq.w {np a : Nat} {I0 I I' : Nat → Int32} {B0 B B' : Nat → Nat → Int32} {μ0 μ μ' : Nat → List Nat} (h : frq np I0 B0 μ0 I B μ) (ha : a ≤ 47) (hr : rwq I B μ np a I' B' μ') : frq np I0 B0 μ0 I' B' μ' := by
  obtain ⟨a1, a2, a3, a4, a5⟩ := h
  obtain ⟨b1, b2, b3, b4, b5, b6⟩ := hr
  refine ⟨fun i q5 q6 q7 q8 => (b1 i q6 q7 q8).trans (a1 i q5 q6 q7 q8), fun i q2 q15 => (b2 i q2 q15).trans (a2 i q2 q15), fun i hi => ?_, b4, fun x hx => (b5 x (by omega)).trans (a5 x hx)⟩
  rw [b3, pk_un hi]
  exact a3 i hi
theorem frq.i {np : Nat} {I0 I I' : Nat → Int32} {B0 B : Nat → Nat → Int32} {μ0 μ : Nat → List Nat} (h : frq np I0 B0 μ0 I B μ) (hi : ∀ i, i ≠ 5 → i ≠ 6 → i ≠ 7 → i ≠ 8 → I' i = I i) : frq np I0 B0 μ0 I' B μ :=
  ⟨fun i q5 q6 q7 q8 => (hi i q5 q6 q7 q8).trans (h.1 i q5 q6 q7 q8), h.2⟩
theorem frq.gP {P : tx_P} {np : Nat} {I0 I : Nat → Int32} {B0 B : Nat → Nat → Int32} {μ0 μ : Nat → List Nat} (h : frq np I0 B0 μ0 I B μ) (hP : gP P I0 B0) : gP P I B := hP.keep (h.1 0 (by decide) (by decide) (by decide) (by decide)) (h.2.1 2 (by decide) (by decide))
/-- what a phrase leaves -/
def phP (P : tx_P) (b np : Nat) (I0 : Nat → Int32) (B0 : Nat → Nat → Int32) (μ0 : Nat → List Nat) (z : Nat ⊕ (Nat × Nat × (Nat → List Nat))) (I : Nat → Int32) (B : Nat → Nat → Int32) (μ : Nat → List Nat) : Prop :=
  frq np I0 B0 μ0 I B μ ∧ match z with
  | .inl f => I 8 = nI f ∧ f < 300 ∧ ∃ q, q < 300 ∧ I 7 = nI q
  | .inr y => I 5 = nI (np + 1) ∧ I 6 = nI (min y.2.1 47) ∧ I 7 = nI y.1 ∧ I 8 = -1 ∧ B 15 np = nI (y.2.1 - b) ∧ (∀ j, j < y.2.1 → μ (4016 + j) = y.2.2 j) ∧ bnd P y.2.1 y.1 ∧ y.1 ≤ P.2 ∧ b ≤ y.2.1 ∧ y.2.1 ≤ 48
section MQ3
variable {T : Nat → am_C} {D : List am_C} {S : Nat → Int64} {P : tx_P}
theorem l_ph161 {I : Nat → Int32} {B : Nat → Nat → Int32} {np q : Nat} {row more : Int32} (h5 : I 5 = nI np) (h7 : I 7 = nI q) : Go m_Mo_readPart 161 [some (.ref 48), some (.int row), some (.int more)] [] (hM T I B S D) (fun r h' => r = none ∧ h' = hM T (va_up (va_up I 7 (nI (q + 1))) 5 (nI (np + 1))) B S D) := by
  iterate 6 refine go_s rfl rfl rfl trivial ?_
  rw [h7, nI_1]
  iterate 4 refine go_s rfl rfl rfl trivial ?_
  change Go m_Mo_readPart 222 [some (.ref 48), some (.int row), some (.int more)] [.int (I 5), .ref 48] (hM T (va_up I 7 (nI (q + 1))) B S D) _
  rw [h5]
  iterate 2 refine go_s rfl rfl rfl trivial ?_
  rw [nI_1]
  iterate 1 refine go_s rfl rfl rfl trivial ?_
  exact go_r rfl rfl rfl trivial ⟨rfl, rfl⟩
theorem l_ph114 {b np : Nat} {row : Int32} {I0 : Nat → Int32} {B0 : Nat → Nat → Int32} {μ0 : Nat → List Nat} (hnp : np < 96) (hP0 : gP P I0 B0) : ∀ (f p nw : Nat) (wq : Nat → List Nat) (I : Nat → Int32) (B : Nat → Nat → Int32) (μ : Nat → List Nat), P.2 - p < f → p ≤ P.2 → sk P p = p → ¬ (sy P p = 34 ∧ b < nw) → b ≤ nw → nw ≤ 48 → bnd P nw p → I 5 = nI np → I 6 = nI (min nw 47) → I 7 = nI p → I 8 = -1 → B 15 np = nI (nw - b) → (∀ j, j < nw → μ (4016 + j) = wq j) → frq np I0 B0 μ0 I B μ →
    Go m_Mo_readPart 114 [some (.ref 48), some (.int row), some (.int 1)] [] (hM T I B S D) (fun r h' => r = none ∧ ∃ I' B' μ', h' = hM T I' B' S D ∧ phP P b np I0 B0 μ0 (phF P b f p nw wq) I' B' μ') := by
  intro f
  induction f with
  | zero => intro p nw wq I B μ hf; omega
  | succ f ih =>
    intro p nw wq I B μ hf hp hsk hno hb hn48 hbnd h5 h6 h7 h8 h15 hwq hfr
    have hn96 : P.2 ≤ 96 := hP0.2.1
    have hP := hfr.gP hP0
    have e0 : phF P b (f + 1) p nw wq = if wl P p = 0 then .inl p else if 12 < wl P p then .inl (p + 12) else phF P b f (p + wl P p) (nw + 1) (va_up wq nw (wrd P p (wl P p))) := by
      rw [phF, hsk, if_neg hno]
    rw [e0]
    iterate 2 refine go_s rfl rfl rfl trivial ?_
    refine go_if (fun hc => ?_) (fun hc => ?_)
    · exact absurd hc (by decide)
    · iterate 2 refine go_s rfl rfl rfl trivial ?_
      rw [h8]
      iterate 1 refine go_s rfl rfl rfl trivial ?_
      refine go_if (fun hc1 => absurd hc1 (by decide)) (fun _ => ?_)
      iterate 1 refine go_s rfl rfl rfl trivial ?_
      refine go_c rfl rfl rfl (c_readWord hnp (a := min nw 47) (by omega) (p := p) (by omega) hP hfr.2.2.2.1 h5 h6 h7 h8) ?_
      rintro r h3 ⟨rfl, I1, B1, μ1, rfl, hr1, hr2⟩
      have hfr1 := hfr.w (by omega) hr1
      have h51 : I1 5 = nI np := (hr1.1 5 (by decide) (by decide) (by decide)).trans h5
      iterate 2 refine go_s rfl rfl rfl trivial ?_
      rcases hr2 with ⟨w0, w12, q7, q8, qw⟩ | ⟨wbad, q, hq, q7, q8⟩
      · obtain ⟨bn1, bn2, bn3⟩ := hbnd.wd w0
        have hpl : p + wl P p ≤ P.2 := wl_le hp
        have ea : min nw 47 = nw := by omega
        rw [if_neg (by omega), if_neg (by omega)]
        rw [ea] at hr1 qw
        rw [q8]
        iterate 1 refine go_s rfl rfl rfl trivial ?_
        refine go_if (fun _ => ?_) (fun hc1 => absurd (by decide) hc1)
        iterate 1 refine go_s rfl rfl rfl trivial ?_
        refine go_c rfl rfl rfl (c_skip (hfr1.gP hP0) (p := p + wl P p) (by omega) q7) ?_
        rintro r h3 ⟨rfl, rfl⟩
        have hfr2 : frq np I0 B0 μ0 (va_up I1 7 (nI (sk P (p + wl P p)))) B1 μ1 := hfr1.i (fun i _ _ a _ => va_up_ne _ _ a)
        have hsk2 : sk P (p + wl P p) ≤ P.2 := sk_le hpl
        have hskg := sk_ge P (p + wl P p)
        iterate 1 refine go_s rfl rfl rfl trivial ?_
        refine go_c rfl rfl rfl (c_here (hfr2.gP hP0) (p := sk P (p + wl P p)) (by omega) (va_up_self _ _ _)) ?_
        rintro r h3 ⟨rfl, rfl⟩
        have hwq1 : ∀ j, j < nw + 1 → μ1 (4016 + j) = va_up wq nw (wrd P p (wl P p)) j := by
          intro j hj
          by_cases e : j = nw
          · subst e; rw [va_up_self]; exact qw
          · rw [va_up_ne _ _ e, hr1.2.2.2.2.1 _ (by omega)]
            exact hwq j (by omega)
        have h151 : B1 15 np = nI (nw + 1 - b) := by
          rw [hr1.2.2.1, pk_us, h15, nI_1]
          congr 1
          omega
        obtain ⟨f', rfl⟩ : ∃ f', f = f' + 1 := ⟨f - 1, by omega⟩
        iterate 2 refine go_s rfl rfl rfl trivial ?_
        refine go_if (fun hc1 => ?_) (fun hc1 => ?_)
        · have h34 : sy P (sk P (p + wl P p)) = 34 := (hereI_eq (hP.lt) (by decide)).mp hc1
          iterate 5 refine go_s rfl rfl rfl trivial ?_
          refine go_if (fun _ => ?_) (fun hc2 => absurd rfl hc2)
          refine Go.mono (l_ph161 (I := va_up I1 7 (nI (sk P (p + wl P p)))) (np := np) (q := sk P (p + wl P p)) ((va_up_ne _ _ (by decide)).trans h51) (va_up_self _ _ _)) fun r h' h => ?_
          obtain ⟨rfl, rfl⟩ := h
          refine ⟨rfl, _, B1, μ1, rfl, hfr2.i (fun i a5 _ a7 _ => (va_up_ne _ _ a5).trans (va_up_ne _ _ a7)), ?_⟩
          rw [phF, if_pos ⟨h34, by omega⟩]
          have hlt : sk P (p + wl P p) < P.2 := Nat.lt_of_not_le fun q => by rw [sy_out q] at h34; omega
          refine ⟨va_up_self _ _ _, ?_, ?_, ?_, h151, hwq1, bn1.up (by show _ < sk P (p + wl P p) + 1; omega), hlt, by show b ≤ nw + 1; omega, by show nw + 1 ≤ 48; omega⟩
          · rw [va_up_ne _ _ (by decide), va_up_ne _ _ (by decide), va_up_ne _ _ (by decide)]
            exact hr1.2.2.2.2.2
          · rw [va_up_ne _ _ (by decide), va_up_self]
          · rw [va_up_ne _ _ (by decide), va_up_ne _ _ (by decide), va_up_ne _ _ (by decide), q8]
        · have h34 : ¬ sy P (sk P (p + wl P p)) = 34 := fun q => hc1 ((hereI_eq (hP.lt) (by decide)).mpr q)
          iterate 4 refine go_s rfl rfl rfl trivial ?_
          have := ih (sk P (p + wl P p)) (nw + 1) (va_up wq nw (wrd P p (wl P p))) (va_up I1 7 (nI (sk P (p + wl P p)))) B1 μ1 (by omega) hsk2 (sk_sk _ _) (fun q => h34 q.1) (by omega) (by omega) (bn1.le hskg) ((va_up_ne _ _ (by decide)).trans h51) ((va_up_ne _ _ (by decide)).trans hr1.2.2.2.2.2) (va_up_self _ _ _) ((va_up_ne _ _ (by decide)).trans q8) h151 hwq1 hfr2
          have e2 : phF P b (f' + 1) (sk P (p + wl P p)) (nw + 1) (va_up wq nw (wrd P p (wl P p))) = phF P b (f' + 1) (p + wl P p) (nw + 1) (va_up wq nw (wrd P p (wl P p))) := by
            rw [phF, phF, sk_sk]
          rw [e2] at this
          exact this
      · have ez : (if wl P p = 0 then (.inl p : Nat ⊕ (Nat × Nat × (Nat → List Nat))) else if 12 < wl P p then .inl (p + 12) else phF P b f (p + wl P p) (nw + 1) (va_up wq nw (wrd P p (wl P p)))) = .inl (if wl P p = 0 then p else p + 12) := by
          by_cases e : wl P p = 0
          · rw [if_pos e, if_pos e]
          · rw [if_neg e, if_neg e, if_pos (by omega)]
        rw [ez]
        have hf2 : (if wl P p = 0 then p else p + 12) < 300 := by split <;> omega
        rw [q8]
        iterate 1 refine go_s rfl rfl rfl trivial ?_
        refine go_if (fun hc1 => absurd hc1 (nI_pos (by omega))) (fun _ => ?_)
        iterate 3 refine go_s rfl rfl rfl trivial ?_
        refine go_if (fun hc2 => absurd hc2 (by decide)) (fun _ => ?_)
        iterate 2 refine go_s rfl rfl rfl trivial ?_
        rw [q8]
        iterate 1 refine go_s rfl rfl rfl trivial ?_
        refine go_if (fun _ => ?_) (fun hc1 => absurd (Int32.not_lt.mp (nI_pos (by omega))) hc1)
        refine Go.mono (l_ph161 h51 q7) fun r h' h => ?_
        obtain ⟨rfl, rfl⟩ := h
        refine ⟨rfl, _, B1, μ1, rfl, hfr1.i (fun i a5 _ a7 _ => (va_up_ne _ _ a5).trans (va_up_ne _ _ a7)), ?_, hf2, q + 1, by omega, ?_⟩
        · rw [va_up_ne _ _ (by decide), va_up_ne _ _ (by decide), q8]
        · rw [va_up_ne _ _ (by decide), va_up_self]
end MQ3
