/-! ===== the reference: a question ===== -/
def mqS (Q : tx_Q) (B : Nat → Nat → Int32) (μ : Nat → List Nat) : Prop := (∀ i, i < Q.1 → B 12 i = nI (Q.2.1 i).1 ∧ B 13 i = nI (srt (Q.2.1 i)) ∧ B 14 i = nI (4016 + (Q.2.1 i).2.2.2.1) ∧ B 15 i = nI (Q.2.1 i).2.2.2.2) ∧ ∀ j, j < Q.2.2.1 → μ (4016 + j) = Q.2.2.2 j
def frQ (I0 : Nat → Int32) (B0 : Nat → Nat → Int32) (μ0 : Nat → List Nat) (I : Nat → Int32) (B : Nat → Nat → Int32) (μ : Nat → List Nat) : Prop := (∀ i, i ≠ 5 → i ≠ 6 → i ≠ 7 → i ≠ 8 → I i = I0 i) ∧ (∀ i, 2 ≤ i → i < 12 ∨ 16 ≤ i → B i = B0 i) ∧ wm B μ ∧ ∀ x, x < 4016 ∨ 4064 ≤ x → μ x = μ0 x
theorem frQ.gP {P : tx_P} {I0 I : Nat → Int32} {B0 B : Nat → Nat → Int32} {μ0 μ : Nat → List Nat} (h : frQ I0 B0 μ0 I B μ) (hP : gP P I0 B0) : gP P I B := hP.keep (h.1 0 (by decide) (by decide) (by decide) (by decide)) (h.2.1 2 (by decide) (by decide))
theorem frQ.p {np : Nat} {I0 I I' : Nat → Int32} {B0 B B' : Nat → Nat → Int32} {μ0 μ μ' : Nat → List Nat} (h : frQ I0 B0 μ0 I B μ) (h2 : frp np I B μ I' B' μ') : frQ I0 B0 μ0 I' B' μ' := by
  obtain ⟨a1, a2, a4, a5⟩ := h
  obtain ⟨b1, b2, b3, b4, b5⟩ := h2
  exact ⟨fun i q5 q6 q7 q8 => (b1 i q5 q6 q7 q8).trans (a1 i q5 q6 q7 q8), fun i q2 c => (b2 i q2 (by omega) (by omega) (by omega) (by omega)).trans (a2 i q2 c), b4, fun x hx => (b5 x hx).trans (a5 x hx)⟩
theorem frQ.i {I0 I I' : Nat → Int32} {B0 B : Nat → Nat → Int32} {μ0 μ : Nat → List Nat} (h : frQ I0 B0 μ0 I B μ) (hi : ∀ i, i ≠ 5 → i ≠ 6 → i ≠ 7 → i ≠ 8 → I' i = I i) : frQ I0 B0 μ0 I' B μ :=
  ⟨fun i q5 q6 q7 q8 => (hi i q5 q6 q7 q8).trans (h.1 i q5 q6 q7 q8), h.2⟩
theorem phF_lt (P : tx_P) (b : Nat) : ∀ (f p nw : Nat) (wq : Nat → List Nat) (y : Nat × Nat × (Nat → List Nat)), phF P b f p nw wq = .inr y → p < y.1
  | 0, p, nw, wq, y, h => by simp [phF] at h
  | f + 1, p, nw, wq, y, h => by
    have hg := sk_ge P p
    rw [phF] at h
    split at h
    · injection h with h
      rw [← h]
      show p < sk P p + 1
      omega
    · split at h
      · simp at h
      · split at h
        · simp at h
        · have := phF_lt P b f _ _ _ y h
          omega
theorem paG_lt {P : tx_P} {p row nw : Nat} {neg : Bool} {wq : Nat → List Nat} {y : Nat × tx_q × Nat × (Nat → List Nat)} (h : paG P p row neg nw wq = .inr y) : p < y.1 := by
  rw [paG] at h
  split at h
  · split at h
    · simp at h
    · rename_i z hz
      have := phF_lt P nw 97 _ _ _ _ hz
      injection h with h
      rw [← h]
      show p < z.1
      omega
  · split at h
    · simp at h
    · split at h
      · simp at h
      · split at h
        · injection h with h
          rw [← h]
          show p < p + wl P p + 1
          omega
        · injection h with h
          rw [← h]
          show p < p + wl P p
          omega
theorem paF_lt {P : tx_P} {p row nw : Nat} {wq : Nat → List Nat} {y : Nat × tx_q × Nat × (Nat → List Nat)} (h : paF P p row nw wq = .inr y) : p < y.1 := by
  rw [paF] at h
  split at h
  · have := paG_lt h
    omega
  · exact paG_lt h
def isP (P : tx_P) (p : Nat) : Prop := sy P p = 45 ∨ sy P p = 34 ∨ lq P p ≠ 0
theorem paF_no {P : tx_P} {p row nw : Nat} {wq : Nat → List Nat} (h : ¬ isP P p) : paF P p row nw wq = .inl p := by
  have h1 : ¬ sy P p = 45 := fun q => h (Or.inl q)
  have h2 : ¬ sy P p = 34 := fun q => h (Or.inr (Or.inl q))
  have h3 : lq P p = 0 := Classical.not_not.mp fun q => h (Or.inr (Or.inr q))
  rw [paF, if_neg h1, paG, if_neg h2, if_pos (wl_no h3)]
theorem quF_sk (P : tx_P) (f p row : Nat) (wanted : Bool) (Q : tx_Q) : quF P (f + 1) (sk P p) row wanted Q = quF P (f + 1) p row wanted Q := by
  rw [quF, quF, sk_sk]
def q00 : tx_Q := (0, fun _ => (0, 0, false, 0, 0), 0, fun _ => [])
def quP (I0 : Nat → Int32) (B0 : Nat → Nat → Int32) (μ0 : Nat → List Nat) (z : Nat ⊕ (tx_Q × Nat)) (r : Option Value) (I : Nat → Int32) (B : Nat → Nat → Int32) (μ : Nat → List Nat) : Prop :=
  (∃ I1, I = va_up I1 0 0 ∧ frQ I0 B0 μ0 I1 B μ) ∧ match z with
  | .inl f => I 8 = nI f ∧ f < 300 ∧ ∃ v, r = some (.int v)
  | .inr y => I 8 = -1 ∧ r = some (.int (nI y.2)) ∧ I 5 = nI y.1.1 ∧ y.1.1 ≤ 96 ∧ y.2 ≤ 97 ∧ y.1.2.2.1 ≤ 48 ∧ mqS y.1 B μ
section MQ5
variable {T : Nat → am_C} {D : List am_C} {S : Nat → Int64} {P : tx_P} {I0 : Nat → Int32} {B0 : Nat → Nat → Int32} {μ0 : Nat → List Nat}
theorem l_rq122 {I : Nat → Int32} {B : Nat → Nat → Int32} {μ : Nat → List Nat} {row f q : Nat} {more : Int32} (hfr : frQ I0 B0 μ0 I B μ) (hf : f < 300) (h8 : I 8 = nI f) : Go m_Mo_readQuestion 122 [some (.ref 48), some (.int (nI row)), some (.int more)] [] (hM T I B S D) (fun r h' => ∃ I' B' μ', h' = hM T I' B' S D ∧ quP I0 B0 μ0 (.inl f) r I' B' μ') := by
  have fin : ∀ g : Int32, Go m_Mo_readQuestion 139 [some (.ref 48), some (.int (nI row)), some (.int more)] [.int g, .ref 48] (hM T I B S D) (fun r h' => ∃ I' B' μ', h' = hM T I' B' S D ∧ quP I0 B0 μ0 (.inl f) r I' B' μ') := by
    intro g
    refine go_c rfl rfl rfl (c_needF g (by omega) h8) ?_
    rintro r h3 ⟨rfl, rfl⟩
    iterate 6 refine go_s rfl rfl rfl trivial ?_
    exact go_r rfl rfl rfl trivial ⟨va_up I 0 0, B, μ, rfl, ⟨I, rfl, hfr⟩, (va_up_ne _ _ (by decide)).trans h8, hf, _, rfl⟩
  iterate 6 refine go_s rfl rfl rfl trivial ?_
  refine go_if (fun hc => ?_) (fun hc => ?_)
  · iterate 1 refine go_s rfl rfl rfl trivial ?_
    exact fin _
  · iterate 2 refine go_s rfl rfl rfl trivial ?_
    exact fin _
theorem l_rq47F {I : Nat → Int32} {B : Nat → Nat → Int32} {μ : Nat → List Nat} {row f q : Nat} {more : Int32} (hP0 : gP P I0 B0) (hfr : frQ I0 B0 μ0 I B μ) (hf : f < 300) (h8 : I 8 = nI f) (hq : q < 300) (h7 : I 7 = nI q) : Go m_Mo_readQuestion 47 [some (.ref 48), some (.int (nI row)), some (.int more)] [] (hM T I B S D) (fun r h' => ∃ I' B' μ', h' = hM T I' B' S D ∧ quP I0 B0 μ0 (.inl f) r I' B' μ') := by
  iterate 2 refine go_s rfl rfl rfl trivial ?_
  rw [h8]
  iterate 1 refine go_s rfl rfl rfl trivial ?_
  refine go_if (fun _ => ?_) (fun hc1 => absurd (Int32.not_lt.mp (nI_pos (by omega))) hc1)
  iterate 1 refine go_s rfl rfl rfl trivial ?_
  refine go_c rfl rfl rfl (c_here (hfr.gP hP0) (p := q) (by omega) h7) ?_
  rintro r h3 ⟨rfl, rfl⟩
  iterate 2 refine go_s rfl rfl rfl trivial ?_
  refine go_if (fun hc => ?_) (fun hc => ?_)
  · iterate 4 refine go_s rfl rfl rfl trivial ?_
    refine go_if (fun _ => ?_) (fun hc1 => absurd rfl hc1)
    iterate 2 refine go_s rfl rfl rfl trivial ?_
    refine go_if (fun _ => ?_) (fun hc1 => absurd rfl hc1)
    exact l_rq122 (q := q) hfr hf h8
  · iterate 5 refine go_s rfl rfl rfl trivial ?_
    refine go_if (fun hc1 => absurd hc1 (by decide)) (fun _ => ?_)
    iterate 2 refine go_s rfl rfl rfl trivial ?_
    rw [h8]
    iterate 1 refine go_s rfl rfl rfl trivial ?_
    refine go_if (fun _ => ?_) (fun hc1 => absurd (Int32.not_lt.mp (nI_pos (by omega))) hc1)
    iterate 2 refine go_s rfl rfl rfl trivial ?_
    refine go_if (fun hc1 => absurd hc1 (by decide)) (fun _ => ?_)
    iterate 2 refine go_s rfl rfl rfl trivial ?_
    rw [h8]
    iterate 1 refine go_s rfl rfl rfl trivial ?_
    refine go_if (fun _ => ?_) (fun hc1 => absurd (Int32.not_lt.mp (nI_pos (by omega))) hc1)
    exact l_rq122 (q := q) hfr hf h8
/-- the state while a question is read -/
def rqS (P : tx_P) (I0 : Nat → Int32) (B0 : Nat → Nat → Int32) (μ0 : Nat → List Nat) (p row : Nat) (Q : tx_Q) (I : Nat → Int32) (B : Nat → Nat → Int32) (μ : Nat → List Nat) : Prop := frQ I0 B0 μ0 I B μ ∧ p ≤ P.2 ∧ Q.1 ≤ p ∧ row ≤ p ∧ Q.2.2.1 ≤ 48 ∧ bnd P Q.2.2.1 p ∧ I 5 = nI Q.1 ∧ I 6 = nI (min Q.2.2.1 47) ∧ I 7 = nI p ∧ I 8 = -1 ∧ mqS Q B μ
/-- a part, at 61 -/
theorem l_rq61 {p row : Nat} {Q : tx_Q} {I : Nat → Int32} {B : Nat → Nat → Int32} {μ : Nat → List Nat} {K : Option Value → List am_C → Prop} (hP0 : gP P I0 B0) (hs : rqS P I0 B0 μ0 p row Q I B μ) (hpn : p < P.2)
    (bad : ∀ f I B μ, paF P p row Q.2.2.1 Q.2.2.2 = .inl f → frQ I0 B0 μ0 I B μ → I 8 = nI f → f < 300 → (∃ q, q < 300 ∧ I 7 = nI q) → Go m_Mo_readQuestion 47 [some (.ref 48), some (.int (nI row)), some (.int 1)] [] (hM T I B S D) K)
    (good : ∀ y I B μ, paF P p row Q.2.2.1 Q.2.2.2 = .inr y → rqS P I0 B0 μ0 (sk P y.1) row (Q.1 + 1, va_up Q.2.1 Q.1 y.2.1, y.2.2.1, y.2.2.2) I B μ → Go m_Mo_readQuestion 47 [some (.ref 48), some (.int (nI row)), some (.int 1)] [] (hM T I B S D) K) :
    Go m_Mo_readQuestion 61 [some (.ref 48), some (.int (nI row)), some (.int 1)] [] (hM T I B S D) K := by
  obtain ⟨hfr, s1, s2, s3, s4, s5, h5, h6, h7, h8, hq⟩ := hs
  have hP := hfr.gP hP0
  have hn96 : P.2 ≤ 96 := hP0.2.1
  iterate 2 refine go_s rfl rfl rfl trivial ?_
  refine go_c rfl rfl rfl (c_readPart (np := Q.1) (row := row) (nw := Q.2.2.1) (p := p) (wq := Q.2.2.2) (by omega) hP hfr.2.2.1 s1 s4 s5 h5 h6 h7 h8 hq.2) ?_
  rintro r h3 ⟨rfl, I1, B1, μ1, rfl, g1, g2⟩
  have hfr1 := hfr.p g1
  cases hz : paF P p row Q.2.2.1 Q.2.2.2 with
  | inl f =>
    rw [hz] at g2
    obtain ⟨k1, k2, k3⟩ := g2
    iterate 2 refine go_s rfl rfl rfl trivial ?_
    rw [k1]
    iterate 1 refine go_s rfl rfl rfl trivial ?_
    refine go_if (fun _ => ?_) (fun hc1 => absurd (Int32.not_lt.mp (nI_pos (by omega))) hc1)
    exact bad f I1 B1 μ1 hz hfr1 k1 k2 k3
  | inr y =>
    rw [hz] at g2
    obtain ⟨k1, k2, k3, k4, ⟨k5, k6, k7, k8⟩, k9, k10, k11, k12⟩ := g2
    have hlt := paF_lt hz
    have hsg := sk_ge P y.1
    have hsl := sk_le k11
    iterate 2 refine go_s rfl rfl rfl trivial ?_
    rw [k4]
    iterate 1 refine go_s rfl rfl rfl trivial ?_
    refine go_if (fun hc1 => absurd hc1 (by decide)) (fun _ => ?_)
    iterate 1 refine go_s rfl rfl rfl trivial ?_
    refine go_c rfl rfl rfl (c_skip (hfr1.gP hP0) (p := y.1) (by omega) k3) ?_
    rintro r h3 ⟨rfl, rfl⟩
    iterate 1 refine go_s rfl rfl rfl trivial ?_
    refine good y (va_up I1 7 (nI (sk P y.1))) B1 μ1 hz ⟨hfr1.i (fun i _ _ a _ => va_up_ne _ _ a), hsl, by show Q.1 + 1 ≤ sk P y.1; omega, by omega, k12, k10.le hsg, (va_up_ne _ _ (by decide)).trans k1, (va_up_ne _ _ (by decide)).trans k2, va_up_self _ _ _, (va_up_ne _ _ (by decide)).trans k4, fun i hi => ?_, k9⟩
    have hi' : i < Q.1 + 1 := hi
    by_cases e : i = Q.1
    · show B1 12 i = nI (va_up Q.2.1 Q.1 y.2.1 i).1 ∧ B1 13 i = nI (srt (va_up Q.2.1 Q.1 y.2.1 i)) ∧ B1 14 i = nI (4016 + (va_up Q.2.1 Q.1 y.2.1 i).2.2.2.1) ∧ B1 15 i = nI (va_up Q.2.1 Q.1 y.2.1 i).2.2.2.2
      rw [e, va_up_self]
      exact ⟨k5, k6, k7, k8⟩
    · show B1 12 i = nI (va_up Q.2.1 Q.1 y.2.1 i).1 ∧ B1 13 i = nI (srt (va_up Q.2.1 Q.1 y.2.1 i)) ∧ B1 14 i = nI (4016 + (va_up Q.2.1 Q.1 y.2.1 i).2.2.2.1) ∧ B1 15 i = nI (va_up Q.2.1 Q.1 y.2.1 i).2.2.2.2
      rw [va_up_ne _ _ e, g1.2.2.1 12 (by decide) (by decide) i e, g1.2.2.1 13 (by decide) (by decide) i e, g1.2.2.1 14 (by decide) (by decide) i e, g1.2.2.1 15 (by decide) (by decide) i e]
      exact hq.1 i (by omega)
theorem l_rq (hP0 : gP P I0 B0) : ∀ (f p row : Nat) (Q : tx_Q) (I : Nat → Int32) (B : Nat → Nat → Int32) (μ : Nat → List Nat), P.2 - p < f → rqS P I0 B0 μ0 p row Q I B μ →
    Go m_Mo_readQuestion 24 [some (.ref 48), some (.int (nI row)), some (.int 1)] [] (hM T I B S D) (fun r h' => ∃ I' B' μ', h' = hM T I' B' S D ∧ quP I0 B0 μ0 (quF P f p row true Q) r I' B' μ') ∧
    (sk P p = p → Go m_Mo_readQuestion 47 [some (.ref 48), some (.int (nI row)), some (.int 1)] [] (hM T I B S D) (fun r h' => ∃ I' B' μ', h' = hM T I' B' S D ∧ quP I0 B0 μ0 (quF P f p row false Q) r I' B' μ')) := by
  intro f
  have hn96 : P.2 ≤ 96 := hP0.2.1
  induction f with
  | zero => intro p row Q I B μ hf; omega
  | succ f ih =>
    intro p row Q I B μ hf hs
    constructor
    · obtain ⟨hfr, s1, s2, s3, s4, s5, h5, h6, h7, h8, hq⟩ := id hs
      have hP := hfr.gP hP0
      have hsg := sk_ge P p
      have hsl := sk_le s1
      iterate 2 refine go_s rfl rfl rfl trivial ?_
      refine go_if (fun hc1 => absurd hc1 (by decide)) (fun _ => ?_)
      iterate 2 refine go_s rfl rfl rfl trivial ?_
      rw [h8]
      iterate 1 refine go_s rfl rfl rfl trivial ?_
      refine go_if (fun hc1 => absurd hc1 (by decide)) (fun _ => ?_)
      iterate 1 refine go_s rfl rfl rfl trivial ?_
      refine go_c rfl rfl rfl (c_skip hP (p := p) (by omega) h7) ?_
      rintro r h3 ⟨rfl, rfl⟩
      have hfr1 : frQ I0 B0 μ0 (va_up I 7 (nI (sk P p))) B μ := hfr.i (fun i _ _ a _ => va_up_ne _ _ a)
      have hP1 := hfr1.gP hP0
      have hs1 : rqS P I0 B0 μ0 (sk P p) row Q (va_up I 7 (nI (sk P p))) B μ := ⟨hfr1, hsl, by omega, by omega, s4, s5.le hsg, (va_up_ne _ _ (by decide)).trans h5, (va_up_ne _ _ (by decide)).trans h6, va_up_self _ _ _, (va_up_ne _ _ (by decide)).trans h8, hq⟩
      iterate 2 refine go_s rfl rfl rfl trivial ?_
      refine go_c rfl rfl rfl (c_isPart hP1 (p := sk P p) (by omega) (va_up_self _ _ _)) ?_
      rintro r h3 ⟨rfl, rfl⟩
      by_cases hpart : isP P (sk P p)
      · rw [b01_t (P := sy P (sk P p) = 45 ∨ sy P (sk P p) = 34 ∨ lq P (sk P p) ≠ 0) hpart]
        have hpn : sk P p < P.2 := Nat.lt_of_not_le fun q => by
          rcases hpart with h | h | h
          · rw [sy_out q] at h; omega
          · rw [sy_out q] at h; omega
          · exact h (lq_out q)
        have e0 : quF P (f + 1) p row true Q = match paF P (sk P p) row Q.2.2.1 Q.2.2.2 with
            | .inl g => .inl g
            | .inr y => quF P f y.1 row false (Q.1 + 1, va_up Q.2.1 Q.1 y.2.1, y.2.2.1, y.2.2.2) := by
          rw [quF, if_neg (by omega), if_neg (fun q => by cases q.1)]
          rfl
        rw [e0]
        refine go_c rfl rfl rfl (c_need1 _ _ _ _ _) ?_
        rintro r h3 ⟨rfl, rfl⟩
        iterate 2 refine go_s rfl rfl rfl trivial ?_
        rw [show va_up I 7 (nI (sk P p)) 8 = -1 from (va_up_ne _ _ (by decide)).trans h8]
        iterate 1 refine go_s rfl rfl rfl trivial ?_
        refine go_if (fun hc1 => absurd hc1 (by decide)) (fun _ => ?_)
        iterate 1 refine go_s rfl rfl rfl trivial ?_
        refine go_c rfl rfl rfl (c_isPart hP1 (p := sk P p) (by omega) (va_up_self _ _ _)) ?_
        rintro r h3 ⟨rfl, rfl⟩
        iterate 1 refine go_s rfl rfl rfl trivial ?_
        refine go_if (fun hc1 => absurd hpart (b01_eq0.mp hc1)) (fun _ => ?_)
        refine l_rq61 hP0 hs1 hpn (fun g I2 B2 μ2 hz hf2 k8 kg kq => ?_) (fun y I2 B2 μ2 hz hs2 => ?_)
        · obtain ⟨q, kq1, kq2⟩ := kq
          rw [hz]
          exact l_rq47F hP0 hf2 kg k8 kq1 kq2
        · rw [hz]
          have hlt := paF_lt hz
          have hsg2 := sk_ge P y.1
          obtain ⟨f', rfl⟩ : ∃ f', f = f' + 1 := ⟨f - 1, by omega⟩
          have := (ih (sk P y.1) row _ I2 B2 μ2 (by omega) hs2).2 (sk_sk _ _)
          rw [quF_sk] at this
          exact this
      · rw [b01_f (P := sy P (sk P p) = 45 ∨ sy P (sk P p) = 34 ∨ lq P (sk P p) ≠ 0) hpart]
        have e0 : quF P (f + 1) p row true Q = .inl (sk P p) := by
          rw [quF]
          by_cases q : P.2 ≤ sk P p
          · rw [if_pos q, if_pos rfl]
          · rw [if_neg q, if_neg (fun q => by cases q.1), paF_no hpart]
        rw [e0]
        refine go_c rfl rfl rfl (c_need0 (I := va_up I 7 (nI (sk P p))) ((va_up_ne _ _ (by decide)).trans h8)) ?_
        rintro r h3 ⟨rfl, rfl⟩
        rw [show va_up I 7 (nI (sk P p)) 7 = nI (sk P p) from va_up_self _ _ _]
        exact l_rq47F hP0 (hfr1.i (fun i _ _ _ a => va_up_ne _ _ a)) (f := sk P p) (by omega) (va_up_self _ _ _) (q := sk P p) (by omega) ((va_up_ne _ _ (by decide)).trans (va_up_self _ _ _))
    · intro hsk
      obtain ⟨hfr, s1, s2, s3, s4, s5, h5, h6, h7, h8, hq⟩ := id hs
      have hP := hfr.gP hP0
      iterate 2 refine go_s rfl rfl rfl trivial ?_
      rw [h8]
      iterate 1 refine go_s rfl rfl rfl trivial ?_
      refine go_if (fun hc1 => absurd hc1 (by decide)) (fun _ => ?_)
      iterate 1 refine go_s rfl rfl rfl trivial ?_
      refine go_c rfl rfl rfl (c_isPart hP (p := p) (by omega) h7) ?_
      rintro r h3 ⟨rfl, rfl⟩
      iterate 1 refine go_s rfl rfl rfl trivial ?_
      by_cases hpart : isP P p
      · refine go_if (fun hc1 => absurd hpart (b01_eq0.mp hc1)) (fun _ => ?_)
        have hpn : p < P.2 := Nat.lt_of_not_le fun q => by
          rcases hpart with h | h | h
          · rw [sy_out q] at h; omega
          · rw [sy_out q] at h; omega
          · exact h (lq_out q)
        have h124 : ¬ sy P p = 124 := fun q => by
          rcases hpart with h | h | h
          · rw [q] at h; omega
          · rw [q] at h; omega
          · exact (lq_sy h).2.2.2.2.1 q
        have e0 : quF P (f + 1) p row false Q = match paF P p row Q.2.2.1 Q.2.2.2 with
            | .inl g => .inl g
            | .inr y => quF P f y.1 row false (Q.1 + 1, va_up Q.2.1 Q.1 y.2.1, y.2.2.1, y.2.2.2) := by
          rw [quF, hsk, if_neg (by omega), if_neg (fun q => h124 q.2)]
          rfl
        rw [e0]
        refine l_rq61 hP0 hs hpn (fun g I2 B2 μ2 hz hf2 k8 kg kq => ?_) (fun y I2 B2 μ2 hz hs2 => ?_)
        · obtain ⟨q, kq1, kq2⟩ := kq
          rw [hz]
          exact l_rq47F hP0 hf2 kg k8 kq1 kq2
        · rw [hz]
          have hlt := paF_lt hz
          have hsg2 := sk_ge P y.1
          obtain ⟨f', rfl⟩ : ∃ f', f = f' + 1 := ⟨f - 1, by omega⟩
          have := (ih (sk P y.1) row _ I2 B2 μ2 (by omega) hs2).2 (sk_sk _ _)
          rw [quF_sk] at this
          exact this
      · refine go_if (fun _ => ?_) (fun hc1 => absurd (b01_f hpart) hc1)
        iterate 1 refine go_s rfl rfl rfl trivial ?_
        refine go_c rfl rfl rfl (c_here hP (p := p) (by omega) h7) ?_
        rintro r h3 ⟨rfl, rfl⟩
        iterate 2 refine go_s rfl rfl rfl trivial ?_
        refine go_if (fun hc => ?_) (fun hc => ?_)
        · have h124 : ¬ sy P p = 124 := fun q => hc ((hereI_eq hP.lt (by decide)).mpr q)
          iterate 4 refine go_s rfl rfl rfl trivial ?_
          refine go_if (fun _ => ?_) (fun hc1 => absurd rfl hc1)
          iterate 2 refine go_s rfl rfl rfl trivial ?_
          refine go_if (fun _ => ?_) (fun hc1 => absurd rfl hc1)
          iterate 3 refine go_s rfl rfl rfl trivial ?_
          rw [h7]
          iterate 2 refine go_s rfl rfl rfl trivial ?_
          rw [(hP.1 : I 0 = nI P.2)]
          iterate 1 refine go_s rfl rfl rfl trivial ?_
          refine go_if (fun hc2 => ?_) (fun hc2 => ?_)
          · have hpn : ¬ P.2 ≤ p := fun q => hc2 (by rw [show p = P.2 by omega])
            have e0 : quF P (f + 1) p row false Q = .inl p := by
              rw [quF, hsk, if_neg hpn, if_neg (fun q => h124 q.2), paF_no hpart]
            rw [e0]
            iterate 1 refine go_s rfl rfl rfl trivial ?_
            refine go_c rfl rfl rfl (c_need0 h8) ?_
            rintro r h3 ⟨rfl, rfl⟩
            rw [h7]
            iterate 6 refine go_s rfl rfl rfl trivial ?_
            exact go_r rfl rfl rfl trivial ⟨va_up (va_up I 8 (nI p)) 0 0, B, μ, rfl, ⟨_, rfl, hfr.i (fun i _ _ _ a => va_up_ne _ _ a)⟩, (va_up_ne _ _ (by decide)).trans (va_up_self _ _ _), by omega, _, rfl⟩
          · have hpn : P.2 ≤ p := by
              have := nI_inj (by omega) (by omega) (Classical.not_not.mp hc2)
              omega
            have e0 : quF P (f + 1) p row false Q = .inr (Q, row + 1) := by
              rw [quF, hsk, if_pos hpn, if_neg (by decide)]
            rw [e0]
            iterate 2 refine go_s rfl rfl rfl trivial ?_
            refine go_c rfl rfl rfl (c_need1 _ _ _ _ _) ?_
            rintro r h3 ⟨rfl, rfl⟩
            iterate 6 refine go_s rfl rfl rfl trivial ?_
            refine go_r rfl rfl rfl trivial ⟨va_up I 0 0, B, μ, rfl, ⟨I, rfl, hfr⟩, (va_up_ne _ _ (by decide)).trans h8, by rw [nI_1], (va_up_ne _ _ (by decide)).trans h5, by show Q.1 ≤ 96; omega, by show row + 1 ≤ 97; omega, s4, hq⟩
        · have h124 : sy P p = 124 := (hereI_eq hP.lt (by decide)).mp (Classical.not_not.mp hc)
          have hpn : p < P.2 := Nat.lt_of_not_le fun q => by rw [sy_out q] at h124; omega
          have e0 : quF P (f + 1) p row false Q = quF P f (p + 1) (row + 1) true Q := by
            rw [quF, hsk, if_neg (by omega), if_pos ⟨rfl, h124⟩]
          rw [e0]
          iterate 5 refine go_s rfl rfl rfl trivial ?_
          refine go_if (fun hc1 => absurd hc1 (by decide)) (fun _ => ?_)
          iterate 2 refine go_s rfl rfl rfl trivial ?_
          rw [h8]
          iterate 1 refine go_s rfl rfl rfl trivial ?_
          refine go_if (fun hc1 => absurd hc1 (by decide)) (fun _ => ?_)
          iterate 3 refine go_s rfl rfl rfl trivial ?_
          rw [h7]
          iterate 2 refine go_s rfl rfl rfl trivial ?_
          rw [nI_1]
          iterate 2 refine go_s rfl rfl rfl trivial ?_
          rw [nI_1]
          iterate 1 refine go_s rfl rfl rfl trivial ?_
          refine (ih (p + 1) (row + 1) Q (va_up I 7 (nI (p + 1))) B μ (by omega) ⟨hfr.i (fun i _ _ a _ => va_up_ne _ _ a), hpn, by omega, by omega, s4, s5.up (Nat.lt_succ_self _), (va_up_ne _ _ (by decide)).trans h5, (va_up_ne _ _ (by decide)).trans h6, va_up_self _ _ _, (va_up_ne _ _ (by decide)).trans h8, hq⟩).1
theorem c_readQuestion {I : Nat → Int32} {B : Nat → Nat → Int32} {μ : Nat → List Nat} (hP : gP P I B) (hw : wm B μ) : Do m_Mo_readQuestion [.ref 48] (hM T I B S D) (fun r h' => ∃ I' B' μ', h' = hM T I' B' S D ∧ quP I B μ (quF P 97 0 0 true q00) r I' B' μ') := by
  have hn96 : P.2 ≤ 96 := hP.2.1
  iterate 16 refine go_s rfl rfl rfl trivial ?_
  exact (l_rq (T := T) (D := D) (S := S) (μ0 := μ) hP 97 0 0 q00 (va_up (va_up (va_up (va_up I 7 0) 8 (-1)) 5 0) 6 0) B μ (by omega) ⟨⟨fun i a5 a6 a7 a8 => (va_up_ne _ _ a6).trans ((va_up_ne _ _ a5).trans ((va_up_ne _ _ a8).trans (va_up_ne _ _ a7))), fun _ _ _ => rfl, hw, fun _ _ => rfl⟩, Nat.zero_le _, Nat.le_refl _, Nat.le_refl _, by show 0 ≤ 48; omega, Or.inl (Nat.le_refl _), rfl, rfl, rfl, rfl, fun i hi => absurd hi (Nat.not_lt_zero i), fun i hi => absurd hi (Nat.not_lt_zero i)⟩).1
end MQ5
