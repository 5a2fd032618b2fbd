/-! ===== the reference: a part of a question ===== -/
def srt (q : tx_q) : Nat := (if q.2.2.1 = true then 1 else 0) + (if q.2.1 = 2 then 4 else if q.2.1 = 1 then 2 else 0)
theorem phF_inr (P : tx_P) (b : Nat) : ∀ (f p nw : Nat) (wq : Nat → List Nat) (y : Nat × Nat × (Nat → List Nat)), phF P b f p nw wq = .inr y → b < y.2.1
  | 0, p, nw, wq, y, h => by simp [phF] at h
  | f + 1, p, nw, wq, y, h => by
    rw [phF] at h
    split at h
    · rename_i q
      injection h with h
      rw [← h]
      exact q.2
    · split at h
      · simp at h
      · split at h
        · simp at h
        · exact phF_inr P b f _ _ _ y h
theorem phF_sk (P : tx_P) (b f p nw : Nat) (wq : Nat → List Nat) : phF P b (f + 1) (sk P p) nw wq = phF P b (f + 1) p nw wq := by
  rw [phF, phF, sk_sk]
/-- how reading a part changes the reference -/
def frp (np : Nat) (I0 : Nat → Int32) (B0 : Nat → Nat → Int32) (μ0 : Nat → List Nat) (I : Nat → Int32) (B : Nat → Nat → Int32) (μ : Nat → List Nat) : Prop := (∀ i, i ≠ 5 → i ≠ 6 → i ≠ 7 → i ≠ 8 → I i = I0 i) ∧ (∀ i, 2 ≤ i → i ≠ 12 → i ≠ 13 → i ≠ 14 → i ≠ 15 → B i = B0 i) ∧ (∀ i, 12 ≤ i → i ≤ 15 → ∀ j, j ≠ np → B i j = B0 i j) ∧ wm B μ ∧ ∀ x, x < 4016 ∨ 4064 ≤ x → μ x = μ0 x
theorem frp.gP {P : tx_P} {np : Nat} {I0 I : Nat → Int32} {B0 B : Nat → Nat → Int32} {μ0 μ : Nat → List Nat} (h : frp np I0 B0 μ0 I B μ) (hP : gP P I0 B0) : gP P I B := hP.keep (h.1 0 (by decide) (by decide) (by decide) (by decide)) (h.2.1 2 (by decide) (by decide) (by decide) (by decide) (by decide))
theorem frp.q {np : Nat} {I0 I I' : Nat → Int32} {B0 B B' : Nat → Nat → Int32} {μ0 μ μ' : Nat → List Nat} (h : frp np I0 B0 μ0 I B μ) (h2 : frq np I B μ I' B' μ') : frp np I0 B0 μ0 I' B' μ' := by
  obtain ⟨a1, a2, a3, a4, a5⟩ := h
  obtain ⟨b1, b2, b3, b4, b5⟩ := h2
  refine ⟨fun i q5 q6 q7 q8 => (b1 i q5 q6 q7 q8).trans (a1 i q5 q6 q7 q8), fun i q2 c12 c13 c14 c15 => (b2 i q2 c15).trans (a2 i q2 c12 c13 c14 c15), fun i c12 c15 j hj => ?_, b4, fun x hx => (b5 x hx).trans (a5 x hx)⟩
  by_cases e : i = 15
  · subst e
    exact (b3 j hj).trans (a3 15 c12 c15 j hj)
  · rw [b2 i (by omega) e]
    exact a3 i c12 c15 j hj
def paP (P : tx_P) (np : Nat) (I0 : Nat → Int32) (B0 : Nat → Nat → Int32) (μ0 : Nat → List Nat) (z : Nat ⊕ (Nat × tx_q × Nat × (Nat → List Nat))) (I : Nat → Int32) (B : Nat → Nat → Int32) (μ : Nat → List Nat) : Prop :=
  frp np I0 B0 μ0 I B μ ∧ match z with
  | .inl f => I 8 = nI f ∧ f < 300 ∧ ∃ q, q < 300 ∧ I 7 = nI q
  | .inr y => I 5 = nI (np + 1) ∧ I 6 = nI (min y.2.2.1 47) ∧ I 7 = nI y.1 ∧ I 8 = -1 ∧ (B 12 np = nI y.2.1.1 ∧ B 13 np = nI (srt y.2.1) ∧ B 14 np = nI (4016 + y.2.1.2.2.2.1) ∧ B 15 np = nI y.2.1.2.2.2.2) ∧ (∀ j, j < y.2.2.1 → μ (4016 + j) = y.2.2.2 j) ∧ bnd P y.2.2.1 y.1 ∧ y.1 ≤ P.2 ∧ y.2.2.1 ≤ 48
section MQ4
variable {T : Nat → am_C} {D : List am_C} {S : Nat → Int64} {P : tx_P}
theorem l_pa217 {I : Nat → Int32} {B : Nat → Nat → Int32} {np : Nat} {row : Int32} {more : Option Value} (h5 : I 5 = nI np) : Go m_Mo_readPart 217 [some (.ref 48), some (.int row), more] [] (hM T I B S D) (fun r h' => r = none ∧ h' = hM T (va_up I 5 (nI (np + 1))) B S D) := by
  iterate 3 refine go_s rfl rfl rfl trivial ?_
  rw [h5]
  iterate 2 refine go_s rfl rfl rfl trivial ?_
  rw [nI_1]
  iterate 1 refine go_s rfl rfl rfl trivial ?_
  exact go_r rfl rfl rfl trivial ⟨rfl, rfl⟩
theorem l_pa76 {np row nw p : Nat} {neg : Bool} {wq : Nat → List Nat} {I I0 : Nat → Int32} {B B0 : Nat → Nat → Int32} {μ μ0 : Nat → List Nat} (hnp : np < 96) (hP0 : gP P I0 B0) (hfr : frp np I0 B0 μ0 I B μ) (hp : p ≤ P.2) (hn48 : nw ≤ 48) (hbnd : bnd P nw p) (h5 : I 5 = nI np) (h6 : I 6 = nI (min nw 47)) (h7 : I 7 = nI p) (h8 : I 8 = -1) (b12 : B 12 np = nI row) (b13 : B 13 np = nI (if neg = true then 1 else 0)) (b14 : B 14 np = nI (4016 + min nw 47)) (b15 : B 15 np = nI 0) (hwq : ∀ j, j < nw → μ (4016 + j) = wq j) :
    Go m_Mo_readPart 76 [some (.ref 48), some (.int (nI row)), none] [] (hM T I B S D) (fun r h' => r = none ∧ ∃ I' B' μ', h' = hM T I' B' S D ∧ paP P np I0 B0 μ0 (paG P p row neg nw wq) I' B' μ') := by
  have hn96 : P.2 ≤ 96 := hP0.2.1
  have hP := hfr.gP hP0
  have cn : (nI np).toNatClampNeg = np := nI_clamp (by omega)
  iterate 1 refine go_s rfl rfl rfl trivial ?_
  refine go_c rfl rfl rfl (c_here hP (p := p) (by omega) h7) ?_
  rintro r h3 ⟨rfl, rfl⟩
  iterate 2 refine go_s rfl rfl rfl trivial ?_
  refine go_if (fun hc => ?_) (fun hc => ?_)
  · have h34 : ¬ sy P p = 34 := fun q => hc ((hereI_eq hP.lt (by decide)).mpr q)
    rw [paG, if_neg h34]
    iterate 1 refine go_s rfl rfl rfl trivial ?_
    refine go_c rfl rfl rfl (c_readWord hnp (a := min nw 47) (by omega) (p := p) (by omega) hP hfr.2.2.2.1 h5 h6 h7 h8) ?_
    rintro r h3 ⟨rfl, I1, B1, μ1, rfl, hr1, hr2⟩
    have hfr1 : frp np I0 B0 μ0 I1 B1 μ1 := hfr.q ((frq.rf hfr.2.2.2.1).w (by omega) hr1)
    have h51 : I1 5 = nI np := (hr1.1 5 (by decide) (by decide) (by decide)).trans h5
    iterate 1 refine go_s rfl rfl rfl trivial ?_
    rcases hr2 with ⟨w0, w12, q7, q8, qw⟩ | ⟨wbad, q, hq, q7, q8⟩
    · obtain ⟨bn1, bn2, bn3⟩ := hbnd.wd w0
      have hpl : p + wl P p ≤ P.2 := wl_le hp
      have ea : min nw 47 = nw := by omega
      rw [if_neg (by omega), if_neg (by omega)]
      rw [ea] at hr1 qw b14
      have hwq1 : ∀ j, j < nw + 1 → μ1 (4016 + j) = va_up wq nw (wrd P p (wl P p)) j := by
        intro j hj
        by_cases e : j = nw
        · subst e; rw [va_up_self]; exact qw
        · rw [va_up_ne _ _ e, hr1.2.2.2.2.1 _ (by omega)]
          exact hwq j (by omega)
      have c12 : B1 12 np = nI row := by rw [hr1.2.1 12 (by decide) (by decide)]; exact b12
      have c13 : B1 13 np = nI (if neg = true then 1 else 0) := by rw [hr1.2.1 13 (by decide) (by decide)]; exact b13
      have c14 : B1 14 np = nI (4016 + nw) := by rw [hr1.2.1 14 (by decide) (by decide)]; exact b14
      have c15 : B1 15 np = nI 1 := by rw [hr1.2.2.1, pk_us, b15, nI_1]
      refine go_c rfl rfl rfl (c_here (hfr1.gP hP0) (p := p + wl P p) (by omega) q7) ?_
      rintro r h3 ⟨rfl, rfl⟩
      iterate 2 refine go_s rfl rfl rfl trivial ?_
      refine go_if (fun hc1 => ?_) (fun hc1 => ?_)
      · have h42 : ¬ sy P (p + wl P p) = 42 := fun q => hc1 ((hereI_eq hP.lt (by decide)).mpr q)
        rw [if_neg h42]
        refine Go.mono (l_pa217 h51) fun r h' h => ?_
        obtain ⟨rfl, rfl⟩ := h
        refine ⟨rfl, va_up I1 5 (nI (np + 1)), B1, μ1, rfl, hfr1.q ((frq.rf hr1.2.2.2.1).i (fun i a5 _ _ _ => va_up_ne _ _ a5)), va_up_self _ _ _, ?_, ?_, ?_, ⟨c12, ?_, c14, c15⟩, hwq1, bn1, hpl, by show nw + 1 ≤ 48; omega⟩
        · rw [va_up_ne _ _ (by decide)]; exact hr1.2.2.2.2.2
        · rw [va_up_ne _ _ (by decide)]; exact q7
        · rw [va_up_ne _ _ (by decide)]; exact q8
        · rw [c13]; rfl
      · have h42 : sy P (p + wl P p) = 42 := (hereI_eq hP.lt (by decide)).mp (Classical.not_not.mp hc1)
        rw [if_pos h42]
        have hlt : p + wl P p < P.2 := Nat.lt_of_not_le fun q => by rw [sy_out q] at h42; omega
        iterate 2 refine go_s rfl rfl rfl trivial ?_
        rw [q8]
        iterate 1 refine go_s rfl rfl rfl trivial ?_
        refine go_if (fun hc2 => absurd hc2 (by decide)) (fun _ => ?_)
        iterate 3 refine go_s rfl rfl rfl trivial ?_
        rw [q7]
        iterate 2 refine go_s rfl rfl rfl trivial ?_
        rw [nI_1]
        iterate 6 refine go_s rfl rfl rfl trivial ?_
        change Go m_Mo_readPart 213 [some (.ref 48), some (.int (nI row)), none] [.int (I1 5), .ref 62, .int (I1 5), .ref 62] (hM T (va_up I1 7 (nI (p + wl P p + 1))) B1 S D) _
        rw [h51]
        refine go_s rfl rfl rfl ?_ ?_
        · exact vp_in_nI (by omega) (by omega)
        simp only [cn]
        iterate 2 refine go_s rfl rfl rfl trivial ?_
        refine go_s rfl rfl rfl ?_ ?_
        · exact vp_in_nI (by omega) (by omega)
        simp only [cn]
        refine Go.mono (l_pa217 (I := va_up I1 7 (nI (p + wl P p + 1))) (B := va_up B1 13 (upd (B1 13) np (B1 13 np + 2))) ((va_up_ne _ _ (by decide)).trans h51)) fun r h' h => ?_
        obtain ⟨rfl, rfl⟩ := h
        have hfr2 : frp np I0 B0 μ0 (va_up (va_up I1 7 (nI (p + wl P p + 1))) 5 (nI (np + 1))) (va_up B1 13 (upd (B1 13) np (B1 13 np + 2))) μ1 := by
          obtain ⟨a1, a2, a3, a4, a5⟩ := hfr1
          refine ⟨fun i q5 q6 q7 q8 => (va_up_ne _ _ q5).trans ((va_up_ne _ _ q7).trans (a1 i q5 q6 q7 q8)), fun i q2 c12 c13 c14 c15 => (va_up_ne _ _ c13).trans (a2 i q2 c12 c13 c14 c15), fun i c12 c15 j hj => ?_, a4.keep2 rfl rfl, a5⟩
          by_cases e : i = 13
          · subst e
            rw [va_up_self, pk_un hj]
            exact a3 13 c12 c15 j hj
          · rw [va_up_ne _ _ e]
            exact a3 i c12 c15 j hj
        refine ⟨rfl, _, _, μ1, rfl, hfr2, va_up_self _ _ _, ?_, ?_, ?_, ⟨c12, ?_, c14, c15⟩, hwq1, bn1.up (Nat.lt_succ_self _), hlt, by show nw + 1 ≤ 48; omega⟩
        · rw [va_up_ne _ _ (by decide), va_up_ne _ _ (by decide)]; exact hr1.2.2.2.2.2
        · rw [va_up_ne _ _ (by decide), va_up_self]
        · rw [va_up_ne _ _ (by decide), va_up_ne _ _ (by decide)]; exact q8
        · rw [va_up_self, pk_us, c13]
          exact nI_add _ 2
    · have ez : (if wl P p = 0 then (.inl p : Nat ⊕ (Nat × tx_q × Nat × (Nat → List Nat))) else if 12 < wl P p then .inl (p + 12) else if sy P (p + wl P p) = 42 then .inr (p + wl P p + 1, (row, 1, neg, nw, 1), nw + 1, va_up wq nw (wrd P p (wl P p))) else .inr (p + wl P p, (row, 0, neg, nw, 1), nw + 1, va_up wq nw (wrd P p (wl P p)))) = .inl (if wl P p = 0 then p else p + 12) := by
        by_cases e : wl P p = 0
        · rw [if_pos e, if_pos e]
        · rw [if_neg e, if_neg e, if_pos (by omega)]
      rw [ez]
      have hf2 : (if wl P p = 0 then p else p + 12) < 300 := by split <;> omega
      have fin : Go m_Mo_readPart 217 [some (.ref 48), some (.int (nI row)), none] [] (hM T I1 B1 S D) (fun r h' => r = none ∧ ∃ I' B' μ', h' = hM T I' B' S D ∧ paP P np I0 B0 μ0 (.inl (if wl P p = 0 then p else p + 12)) I' B' μ') := by
        refine Go.mono (l_pa217 h51) fun r h' h => ?_
        obtain ⟨rfl, rfl⟩ := h
        exact ⟨rfl, va_up I1 5 (nI (np + 1)), B1, μ1, rfl, hfr1.q ((frq.rf hr1.2.2.2.1).i (fun i a5 _ _ _ => va_up_ne _ _ a5)), (va_up_ne _ _ (by decide)).trans q8, hf2, q, by omega, (va_up_ne _ _ (by decide)).trans q7⟩
      refine go_c rfl rfl rfl (c_here (hfr1.gP hP0) (p := q) (by omega) q7) ?_
      rintro r h3 ⟨rfl, rfl⟩
      iterate 2 refine go_s rfl rfl rfl trivial ?_
      refine go_if (fun hc1 => fin) (fun hc1 => ?_)
      iterate 2 refine go_s rfl rfl rfl trivial ?_
      rw [q8]
      iterate 1 refine go_s rfl rfl rfl trivial ?_
      exact go_if (fun _ => fin) (fun hc2 => absurd (Int32.not_lt.mp (nI_pos (by omega))) hc2)
  · have h34 : sy P p = 34 := (hereI_eq hP.lt (by decide)).mp (Classical.not_not.mp hc)
    have hlt : p < P.2 := Nat.lt_of_not_le fun q => by rw [sy_out q] at h34; omega
    rw [paG, if_pos h34]
    iterate 3 refine go_s rfl rfl rfl trivial ?_
    rw [h7]
    iterate 2 refine go_s rfl rfl rfl trivial ?_
    rw [nI_1]
    iterate 6 refine go_s rfl rfl rfl trivial ?_
    change Go m_Mo_readPart 104 [some (.ref 48), some (.int (nI row)), none] [.int (I 5), .ref 62, .int (I 5), .ref 62] (hM T (va_up I 7 (nI (p + 1))) B S D) _
    rw [h5]
    refine go_s rfl rfl rfl ?_ ?_
    · exact vp_in_nI (by omega) (by omega)
    simp only [cn]
    iterate 2 refine go_s rfl rfl rfl trivial ?_
    refine go_s rfl rfl rfl ?_ ?_
    · exact vp_in_nI (by omega) (by omega)
    simp only [cn]
    change Go m_Mo_readPart 108 [some (.ref 48), some (.int (nI row)), none] [] (hM T (va_up I 7 (nI (p + 1))) (va_up B 13 (upd (B 13) np (B 13 np + 4))) S D) _
    have hPa : gP P (va_up I 7 (nI (p + 1))) (va_up B 13 (upd (B 13) np (B 13 np + 4))) := hP.keep rfl rfl
    iterate 1 refine go_s rfl rfl rfl trivial ?_
    refine go_c rfl rfl rfl (c_skip hPa (p := p + 1) (by omega) (va_up_self _ _ _)) ?_
    rintro r h3 ⟨rfl, rfl⟩
    rw [bx_uu]
    iterate 2 refine go_s rfl rfl rfl trivial ?_
    have hsk1 := sk_le (P := P) (p := p + 1) (by omega)
    have hskg := sk_ge P (p + 1)
    have hfr2 : frp np I0 B0 μ0 (va_up I 7 (nI (sk P (p + 1)))) (va_up B 13 (upd (B 13) np (B 13 np + 4))) μ := by
      obtain ⟨a1, a2, a3, a4, a5⟩ := hfr
      refine ⟨fun i q5 q6 q7 q8 => (va_up_ne _ _ q7).trans (a1 i q5 q6 q7 q8), fun i q2 c12 c13 c14 c15 => (va_up_ne _ _ c13).trans (a2 i q2 c12 c13 c14 c15), fun i c12 c15 j hj => ?_, a4.keep2 rfl rfl, a5⟩
      by_cases e : i = 13
      · subst e
        rw [va_up_self, pk_un hj]
        exact a3 13 c12 c15 j hj
      · rw [va_up_ne _ _ e]
        exact a3 i c12 c15 j hj
    have e97 : phF P nw 97 (sk P (p + 1)) nw wq = phF P nw 97 (p + 1) nw wq := phF_sk P nw 96 (p + 1) nw wq
    refine Go.mono (l_ph114 (b := nw) (np := np) (row := nI row) (I0 := va_up I 7 (nI (sk P (p + 1)))) (B0 := va_up B 13 (upd (B 13) np (B 13 np + 4))) (μ0 := μ) hnp (hfr2.gP hP0) 97 (sk P (p + 1)) nw wq (va_up I 7 (nI (sk P (p + 1)))) (va_up B 13 (upd (B 13) np (B 13 np + 4))) μ (by omega) hsk1 (sk_sk _ _) (fun q => Nat.lt_irrefl _ q.2) (Nat.le_refl _) hn48 (hbnd.up (by omega)) ((va_up_ne _ _ (by decide)).trans h5) ((va_up_ne _ _ (by decide)).trans h6) (va_up_self _ _ _) ((va_up_ne _ _ (by decide)).trans h8) (by rw [Nat.sub_self]; exact b15) hwq (frq.rf hfr2.2.2.2.1)) fun r h' h => ?_
    obtain ⟨rfl, I3, B3, μ3, rfl, g1, g2⟩ := h
    rw [e97] at g2
    refine ⟨rfl, I3, B3, μ3, rfl, hfr2.q g1, ?_⟩
    cases hz : phF P nw 97 (p + 1) nw wq with
    | inl f => rw [hz] at g2; exact g2
    | inr y =>
      have hby := phF_inr P nw 97 (p + 1) nw wq y hz
      rw [hz] at g2
      obtain ⟨k1, k2, k3, k4, k5, k6, k7, k8, k9, k10⟩ := g2
      have ea : min nw 47 = nw := by omega
      rw [ea] at b14
      have m12 : B3 12 np = nI row := by rw [g1.2.1 12 (by decide) (by decide)]; exact b12
      have m13 : B3 13 np = nI ((if neg = true then 1 else 0) + 4) := by
        rw [g1.2.1 13 (by decide) (by decide), va_up_self, pk_us, b13]
        exact nI_add _ 4
      have m14 : B3 14 np = nI (4016 + nw) := by rw [g1.2.1 14 (by decide) (by decide)]; exact b14
      exact ⟨k1, k2, k3, k4, ⟨m12, m13, m14, k5⟩, k6, k7, k8, k10⟩
theorem c_readPart {np row nw p : Nat} {wq : Nat → List Nat} {I : Nat → Int32} {B : Nat → Nat → Int32} {μ : Nat → List Nat} (hnp : np < 96) (hP : gP P I B) (hw : wm B μ) (hp : p ≤ P.2) (hn48 : nw ≤ 48) (hbnd : bnd P nw p) (h5 : I 5 = nI np) (h6 : I 6 = nI (min nw 47)) (h7 : I 7 = nI p) (h8 : I 8 = -1) (hwq : ∀ j, j < nw → μ (4016 + j) = wq j) :
    Do m_Mo_readPart [.ref 48, .int (nI row)] (hM T I B S D) (fun r h' => r = none ∧ ∃ I' B' μ', h' = hM T I' B' S D ∧ paP P np I B μ (paF P p row nw wq) I' B' μ') := by
  have hn96 : P.2 ≤ 96 := hP.2.1
  have cn : (nI np).toNatClampNeg = np := nI_clamp (by omega)
  iterate 4 refine go_s rfl rfl rfl trivial ?_
  rw [h5]
  iterate 1 refine go_s rfl rfl rfl trivial ?_
  refine go_s rfl rfl rfl ?_ ?_
  · exact vp_in_nI (by omega) (by omega)
  simp only [cn]
  iterate 4 refine go_s rfl rfl rfl trivial ?_
  rw [h5]
  iterate 1 refine go_s rfl rfl rfl trivial ?_
  refine go_s rfl rfl rfl ?_ ?_
  · exact vp_in_nI (by omega) (by omega)
  simp only [cn]
  iterate 4 refine go_s rfl rfl rfl trivial ?_
  rw [h5]
  iterate 3 refine go_s rfl rfl rfl trivial ?_
  rw [h6]
  iterate 1 refine go_s rfl rfl rfl trivial ?_
  rw [show (4016 : Int32) + nI (min nw 47) = nI (4016 + min nw 47) by rw [show (4016 : Int32) = nI 4016 from rfl, nI_add]]
  refine go_s rfl rfl rfl ?_ ?_
  · exact vp_in_nI (by omega) (by omega)
  simp only [cn]
  iterate 4 refine go_s rfl rfl rfl trivial ?_
  rw [h5]
  iterate 1 refine go_s rfl rfl rfl trivial ?_
  refine go_s rfl rfl rfl ?_ ?_
  · exact vp_in_nI (by omega) (by omega)
  simp only [cn]
  change Go m_Mo_readPart 47 [some (.ref 48), some (.int (nI row)), none] [] (hM T I (va_up (va_up (va_up (va_up B 12 (upd (B 12) np (nI row))) 13 (upd (B 13) np 0)) 14 (upd (B 14) np (nI (4016 + min nw 47)))) 15 (upd (B 15) np 0)) S D) _
  have key : ∃ B1, B1 = (va_up (va_up (va_up (va_up B 12 (upd (B 12) np (nI row))) 13 (upd (B 13) np 0)) 14 (upd (B 14) np (nI (4016 + min nw 47)))) 15 (upd (B 15) np 0)) := ⟨_, rfl⟩
  obtain ⟨B1, eB1⟩ := key
  have d12 : B1 12 = upd (B 12) np (nI row) := by
    rw [eB1, va_up_ne _ _ (by decide), va_up_ne _ _ (by decide), va_up_ne _ _ (by decide), va_up_self]
  have d13 : B1 13 = upd (B 13) np 0 := by
    rw [eB1, va_up_ne _ _ (by decide), va_up_ne _ _ (by decide), va_up_self]
  have d14 : B1 14 = upd (B 14) np (nI (4016 + min nw 47)) := by
    rw [eB1, va_up_ne _ _ (by decide), va_up_self]
  have d15 : B1 15 = upd (B 15) np 0 := by rw [eB1, va_up_self]
  have kB : ∀ i, i ≠ 12 → i ≠ 13 → i ≠ 14 → i ≠ 15 → B1 i = B i := fun i a b c d => by
    rw [eB1, va_up_ne _ _ d, va_up_ne _ _ c, va_up_ne _ _ b, va_up_ne _ _ a]
  rw [← eB1]
  have hfr : frp np I B μ I B1 μ := by
    refine ⟨fun _ _ _ _ _ => rfl, fun i _ a b c d => kB i a b c d, fun i a b j hj => ?_, hw.keep2 (kB 0 (by decide) (by decide) (by decide) (by decide)) (kB 1 (by decide) (by decide) (by decide) (by decide)), fun _ _ => rfl⟩
    rcases (by omega : i = 12 ∨ i = 13 ∨ i = 14 ∨ i = 15) with rfl | rfl | rfl | rfl
    · rw [d12, pk_un hj]
    · rw [d13, pk_un hj]
    · rw [d14, pk_un hj]
    · rw [d15, pk_un hj]
  have hP1 := hfr.gP hP
  iterate 1 refine go_s rfl rfl rfl trivial ?_
  refine go_c rfl rfl rfl (c_here hP1 (p := p) (by omega) h7) ?_
  rintro r h3 ⟨rfl, rfl⟩
  iterate 2 refine go_s rfl rfl rfl trivial ?_
  refine go_if (fun hc => ?_) (fun hc => ?_)
  · have h45 : ¬ sy P p = 45 := fun q => hc ((hereI_eq hP.lt (by decide)).mpr q)
    rw [paF, if_neg h45]
    exact l_pa76 hnp hP hfr hp hn48 hbnd h5 h6 h7 h8 (by rw [d12, pk_us]) (by rw [d13, pk_us]; rfl) (by rw [d14, pk_us]) (by rw [d15, pk_us]; rfl) hwq
  · have h45 : sy P p = 45 := (hereI_eq hP.lt (by decide)).mp (Classical.not_not.mp hc)
    have hlt : p < P.2 := Nat.lt_of_not_le fun q => by rw [sy_out q] at h45; omega
    rw [paF, if_pos h45]
    iterate 3 refine go_s rfl rfl rfl trivial ?_
    rw [h7]
    iterate 2 refine go_s rfl rfl rfl trivial ?_
    rw [nI_1]
    iterate 5 refine go_s rfl rfl rfl trivial ?_
    change Go m_Mo_readPart 74 [some (.ref 48), some (.int (nI row)), none] [.int (I 5), .ref 62] (hM T (va_up I 7 (nI (p + 1))) B1 S D) _
    rw [h5]
    iterate 1 refine go_s rfl rfl rfl trivial ?_
    refine go_s rfl rfl rfl ?_ ?_
    · exact vp_in_nI (by omega) (by omega)
    simp only [cn]
    have hfr2 : frp np I B μ (va_up I 7 (nI (p + 1))) (va_up B1 13 (upd (B1 13) np 1)) μ := by
      obtain ⟨a1, a2, a3, a4, a5⟩ := hfr
      refine ⟨fun i q5 q6 q7 q8 => va_up_ne _ _ q7, fun i q2 c12 c13 c14 c15 => (va_up_ne _ _ c13).trans (a2 i q2 c12 c13 c14 c15), fun i c12 c15 j hj => ?_, a4.keep2 rfl rfl, a5⟩
      by_cases e : i = 13
      · subst e
        rw [va_up_self, pk_un hj]
        exact a3 13 c12 c15 j hj
      · rw [va_up_ne _ _ e]
        exact a3 i c12 c15 j hj
    exact l_pa76 hnp hP hfr2 (by omega) hn48 (hbnd.up (Nat.lt_succ_self _)) ((va_up_ne _ _ (by decide)).trans h5) ((va_up_ne _ _ (by decide)).trans h6) (va_up_self _ _ _) ((va_up_ne _ _ (by decide)).trans h8) (by rw [va_up_ne _ _ (by decide), d12, pk_us]) (by rw [va_up_self, pk_us]; rfl) (by rw [va_up_ne _ _ (by decide), d14, pk_us]) (by rw [va_up_ne _ _ (by decide), d15, pk_us]; rfl) hwq
end MQ4
