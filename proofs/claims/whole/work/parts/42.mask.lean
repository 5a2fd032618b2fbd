/-! ===== the reference: phrases, parts, rows of a question, as texts answer them ===== -/
theorem hasQ0 {o : Option (List Nat)} {v : List Nat} : hasQ 0 o v ↔ o = some v := by
  constructor
  · rintro ⟨u, hu, hu2⟩
    rcases hu2 with ⟨-, q⟩ | ⟨q, -⟩
    · rw [hu, q]
    · exact absurd q (by decide)
  · intro h
    exact ⟨v, h, Or.inl ⟨rfl, rfl⟩⟩
/-- the state while a question is answered -/
def qS (X : tx_X) (E : Nat → List Nat → Option (List Nat)) (Q : tx_Q) (I : Nat → Int32) (B : Nat → Nat → Int32) (μ : Nat → List Nat) : Prop := wm B μ ∧ menv I B μ E ∧ mtx I B μ (xnt X) (xlg X) (xfd X) (xcn X) (xwd X) ∧ mqS Q B μ ∧ Q.1 ≤ 96 ∧ Q.2.2.1 ≤ 48 ∧ I 5 = nI Q.1
theorem qS.keepc {X : tx_X} {E : Nat → List Nat → Option (List Nat)} {Q : tx_Q} {k : Nat} {I : Nat → Int32} {B B' : Nat → Nat → Int32} {μ μ' : Nat → List Nat} (h : qS X E Q I B μ) (hs : wsc k B μ B' μ') (hk : 4064 ≤ k) : qS X E Q I B' μ' := by
  obtain ⟨h1, h2, h3, ⟨h4, h4b⟩, h5, h6, h7⟩ := h
  refine ⟨hs.2.1, h2.keepc hs (by omega), h3.keepc hs (by omega), ⟨fun i hi => ?_, fun j hj => (hs.2.2 _ (by omega)).trans (h4b j hj)⟩, h5, h6, h7⟩
  rw [hs.1 12 (by omega), hs.1 13 (by omega), hs.1 14 (by omega), hs.1 15 (by omega)]
  exact h4 i hi
theorem wsc.le {k k' : Nat} {B B' : Nat → Nat → Int32} {μ μ' : Nat → List Nat} (h : wsc k B μ B' μ') (hk : k' ≤ k) : wsc k' B μ B' μ' := ⟨h.1, h.2.1, fun a ha => h.2.2 a (by omega)⟩
def okW (E : Nat → List Nat → Option (List Nat)) (X : tx_X) (l t : Nat) (wq : Nat → List Nat) (first f k : Nat) : Prop := E l (wq (first + k)) = none ∨ E l (xwd X t (f + k)) = E l (wq (first + k))
def phQ (E : Nat → List Nat → Option (List Nat)) (X : tx_X) (l t : Nat) (wq : Nat → List Nat) (first n : Nat) : Prop := ∃ f, f + n ≤ xcn X t ∧ ∀ k, k < n → okW E X l t wq first f k
/-- how often a text has a stem (begins: one that begins so) -/
noncomputable def tmQ (E : Nat → List Nat → Option (List Nat)) (X : tx_X) (l t : Nat) (b : Int32) (v : List Nat) : Nat := cnt (fun j => hasQ b (E l (xwd X t j)) v) (xcn X t)
def paQ (E : Nat → List Nat → Option (List Nat)) (X : tx_X) (l t : Nat) (wq : Nat → List Nat) (q : tx_q) : Prop :=
  if q.2.1 = 2 then phQ E X l t wq q.2.2.2.1 q.2.2.2.2 else if q.2.1 = 1 then 0 < tmQ E X l t 1 (wq q.2.2.2.1) else ∃ u, E l (wq q.2.2.2.1) = some u ∧ 0 < tmQ E X l t 0 u
def rwQ (E : Nat → List Nat → Option (List Nat)) (X : tx_X) (l t : Nat) (Q : tx_Q) (r : Nat) : Prop := ∀ p, p < Q.1 → (Q.2.1 p).1 = r → (paQ E X l t Q.2.2.2 (Q.2.1 p) ↔ (Q.2.1 p).2.2.1 = false)
def askedP (X : tx_X) (l t : Nat) (f : Int32) : Prop := xlg X t = some l ∧ (f < 0 ∨ nI (xfd X t) = f)
section MASK1
variable {T : Nat → am_C} {D : List am_C} {I : Nat → Int32} {S : Nat → Int64} {E : Nat → List Nat → Option (List Nat)} {X : tx_X} {Q : tx_Q} {K : Option Value → List am_C → Prop}
theorem qS.txt {B : Nat → Nat → Int32} {μ : Nat → List Nat} (h : qS X E Q I B μ) {t l : Nat} (ht : t < xnt X) (hl : xlg X t = some l) : t < 40 ∧ l < 3 ∧ B 3 t = nI l ∧ B 5 t = nI (xcn X t) ∧ xcn X t ≤ 48 ∧ ∀ p, p < xcn X t → μ (48 * t + p) = xwd X t p := by
  obtain ⟨h1, h2, ⟨x1, x2, x3⟩, h4⟩ := h
  obtain ⟨k1, k2, k3, k4, k5, k6, k7⟩ := x3 t ht
  refine ⟨by omega, k2 l hl, by rw [k1, hl]; rfl, k5, k6, k7⟩
/-- how often -/
theorem c_tms {B : Nat → Nat → Int32} {μ : Nat → List Nat} (hq : qS X E Q I B μ) {t l a : Nat} {f : Int32} {v : List Nat} (ht : t < xnt X) (hl : xlg X t = some l) (ha : a < 6034) (ha2 : a ≠ 6032) (hf : f = 0 ∨ f = 1) (hv : μ a = v) :
    Do m_Mo_times [.ref 48, .int (nI t), .int (nI a), .int f] (hM T I B S D) (fun r h' => r = some (.int (nI (tmQ E X l t f v))) ∧ ∃ B' μ', h' = hM T I B' S D ∧ wsc 6032 B μ B' μ' ∧ μ' 6033 = μ 6033) := by
  obtain ⟨t40, l3, b3, b5, c48, hwd⟩ := hq.txt ht hl
  refine (c_times hq.1 hq.2.1 t40 l3 b3 b5 c48 ha ha2 hf).mono fun r h' h => ?_
  obtain ⟨g1, B1, w1, g2, g3, g4⟩ := h
  refine ⟨?_, B1, _, g2, wsc.up g3 g4 (Nat.le_refl _), va_up_ne _ _ (by decide)⟩
  rw [g1, hv, tmQ]
  congr 3
  refine cnt_congr _ fun j hj => ?_
  rw [hwd j hj]
theorem l_hp29z {H : List am_C} {t i n f k : Nat} {X7 : Option Value} (kk : Go m_Mo_hasPhrase 106 [some (.ref 48), some (.int (nI t)), some (.int (nI i)), some (.int (nI n)), some (.int (nI f)), some (.int 0), some (.int (nI k)), X7] [] H K) : Go m_Mo_hasPhrase 29 [some (.ref 48), some (.int (nI t)), some (.int (nI i)), some (.int (nI n)), some (.int (nI f)), some (.int 0), some (.int (nI k)), X7] [] H K := by
  iterate 3 refine go_s rfl rfl rfl trivial ?_
  refine go_if (fun _ => kk) (fun _ => ?_)
  iterate 2 refine go_s rfl rfl rfl trivial ?_
  exact go_if (fun _ => kk) (fun h => absurd rfl h)
theorem l_hp29 {t l i f : Nat} (ht : t < xnt X) (hl : xlg X t = some l) (hi : i < Q.1) (hfn : f + (Q.2.1 i).2.2.2.2 ≤ xcn X t) (hqn : (Q.2.1 i).2.2.2.1 + (Q.2.1 i).2.2.2.2 ≤ Q.2.2.1) : ∀ (d k : Nat) (X7 : Option Value) (B : Nat → Nat → Int32) (μ : Nat → List Nat), qS X E Q I B μ → (Q.2.1 i).2.2.2.2 = k + d → (∀ j, j < k → okW E X l t Q.2.2.2 (Q.2.1 i).2.2.2.1 f j) →
    (∀ (g : Int32) (k' : Nat) (X7 : Option Value) (B' : Nat → Nat → Int32) (μ' : Nat → List Nat), wsc 6032 B μ B' μ' → ((g = 1 ∧ ∀ j, j < (Q.2.1 i).2.2.2.2 → okW E X l t Q.2.2.2 (Q.2.1 i).2.2.2.1 f j) ∨ (g = 0 ∧ ¬ ∀ j, j < (Q.2.1 i).2.2.2.2 → okW E X l t Q.2.2.2 (Q.2.1 i).2.2.2.1 f j)) →
      Go m_Mo_hasPhrase 106 [some (.ref 48), some (.int (nI t)), some (.int (nI i)), some (.int (nI (Q.2.1 i).2.2.2.2)), some (.int (nI f)), some (.int g), some (.int (nI k')), X7] [] (hM T I B' S D) K) →
    Go m_Mo_hasPhrase 29 [some (.ref 48), some (.int (nI t)), some (.int (nI i)), some (.int (nI (Q.2.1 i).2.2.2.2)), some (.int (nI f)), some (.int 1), some (.int (nI k)), X7] [] (hM T I B S D) K := by
  have ct : t < 40 → (nI t).toNatClampNeg = t := fun h => nI_clamp (by omega)
  have ci : i < 96 → (nI i).toNatClampNeg = i := fun h => nI_clamp (by omega)
  intro d
  induction d with
  | zero =>
    intro k X7 B μ hq hk hok kk
    obtain ⟨h1, h2, h3, h4, h5, h6, h7⟩ := id hq
    have ek : k = (Q.2.1 i).2.2.2.2 := by omega
    subst ek
    iterate 3 refine go_s rfl rfl rfl trivial ?_
    refine go_if (fun _ => ?_) (fun hc => absurd (Int32.le_refl _) hc)
    exact kk 1 _ X7 B μ (wsc.rf h1) (Or.inl ⟨rfl, hok⟩)
  | succ d ih =>
    intro k X7 B μ hq hk hok kk
    obtain ⟨h1, h2, h3, h4, h5, h6, h7⟩ := id hq
    obtain ⟨t40, l3, b3, b5, c48, hwd⟩ := hq.txt ht hl
    obtain ⟨m12, m13, m14, m15⟩ := h4.1 i hi
    have hwq : μ (4016 + (Q.2.1 i).2.2.2.1 + k) = Q.2.2.2 ((Q.2.1 i).2.2.2.1 + k) := by
      rw [Nat.add_assoc]
      exact h4.2 _ (by omega)
    iterate 3 refine go_s rfl rfl rfl trivial ?_
    refine go_if (fun hc => absurd hc (nI_ge (by omega) (by omega))) (fun _ => ?_)
    iterate 2 refine go_s rfl rfl rfl trivial ?_
    refine go_if (fun hc => absurd hc (by decide)) (fun _ => ?_)
    iterate 3 refine go_s rfl rfl rfl trivial ?_
    refine go_s rfl rfl rfl ?_ ?_
    · exact vp_in_nI (by omega) (by omega)
    simp only [ci (by omega), m14]
    iterate 2 refine go_s rfl rfl rfl trivial ?_
    rw [nI_add]
    iterate 5 refine go_s rfl rfl rfl trivial ?_
    refine go_s rfl rfl rfl ?_ ?_
    · exact vp_in_nI (by omega) (by omega)
    simp only [ct t40, b3]
    iterate 1 refine go_s rfl rfl rfl trivial ?_
    refine go_c rfl rfl rfl (c_isStop_E h1 h2 (a := 4016 + (Q.2.1 i).2.2.2.1 + k) (by omega) l3) ?_
    rintro r h0 ⟨rfl, rfl⟩
    rw [hwq]
    iterate 1 refine go_s rfl rfl rfl trivial ?_
    refine go_if (fun hc => ?_) (fun hc => ?_)
    · have hn := b01_eq0.mp hc
      obtain ⟨u, hu⟩ : ∃ u, E l (Q.2.2.2 ((Q.2.1 i).2.2.2.1 + k)) = some u := by
        cases q : E l (Q.2.2.2 ((Q.2.1 i).2.2.2.1 + k)) with
        | none => exact absurd q hn
        | some u => exact ⟨u, rfl⟩
      iterate 4 refine go_s rfl rfl rfl trivial ?_
      refine go_s rfl rfl rfl ?_ ?_
      · exact vp_in_nI (by omega) (by omega)
      simp only [ct t40, b3]
      iterate 2 refine go_s rfl rfl rfl trivial ?_
      refine go_c rfl rfl rfl (c_stemTo_E h1 h2 l3 (a := 4016 + (Q.2.1 i).2.2.2.1 + k) (to := 6033) (by omega) (by omega) (by omega) (by omega) (by rw [hwq]; exact hu)) ?_
      rintro r h0 ⟨rfl, B1, rfl, hs1, hw1⟩
      have w1 : wsc 6033 B μ B1 (va_up μ 6033 u) := wsc.up hs1 hw1 (by omega)
      have hq1 := hq.keepc w1 (by omega)
      obtain ⟨-, -, c3, c5, -, hwd1⟩ := hq1.txt ht hl
      iterate 5 refine go_s rfl rfl rfl trivial ?_
      rw [nI_add]
      iterate 2 refine go_s rfl rfl rfl trivial ?_
      refine go_c rfl rfl rfl (c_hasAt hq1.1 hq1.2.1 (t := t) (p := f + k) (a := 6033) (f := 0) t40 (by omega) l3 c3 (by omega) (by omega) (Or.inl rfl)) ?_
      rintro r h0 ⟨rfl, B2, w2, rfl, hs2, hw2⟩
      have w2 : wsc 6032 B μ B2 _ := (w1.le (by omega)).tr (wsc.up hs2 hw2 (by omega))
      rw [hwd1 (f + k) (by omega), va_up_self]
      iterate 3 refine go_s rfl rfl rfl trivial ?_
      rw [nI_1]
      by_cases hh : hasQ 0 (E l (xwd X t (f + k))) u
      · rw [b01_t hh]
        refine ih (k + 1) _ B2 _ (hq.keepc w2 (by omega)) (by omega) (fun j hj => ?_) (fun g k' X7 B' μ' hs h => kk g k' X7 B' μ' (w2.tr hs) h)
        rcases Nat.lt_or_ge j k with h | h
        · exact hok j h
        · rw [show j = k by omega]
          right
          rw [hu]
          exact hasQ0.mp hh
      · rw [b01_f hh]
        refine l_hp29z (kk 0 _ _ B2 _ w2 (Or.inr ⟨rfl, fun h => ?_⟩))
        rcases h k (by omega) with q | q
        · exact hn q
        · rw [hu] at q
          exact hh (hasQ0.mpr q)
    · have hn : E l (Q.2.2.2 ((Q.2.1 i).2.2.2.1 + k)) = none := Classical.not_not.mp fun q => hc (b01_f q)
      iterate 3 refine go_s rfl rfl rfl trivial ?_
      rw [nI_1]
      refine ih (k + 1) _ B μ hq (by omega) (fun j hj => ?_) kk
      rcases Nat.lt_or_ge j k with h | h
      · exact hok j h
      · rw [show j = k by omega]
        exact Or.inl hn
theorem l_hp10 {t l i : Nat} (ht : t < xnt X) (hl : xlg X t = some l) (hi : i < Q.1) (hqn : (Q.2.1 i).2.2.2.1 + (Q.2.1 i).2.2.2.2 ≤ Q.2.2.1) : ∀ (d f : Nat) (X5 X6 X7 : Option Value) (B : Nat → Nat → Int32) (μ : Nat → List Nat), qS X E Q I B μ → xcn X t + 1 - (f + (Q.2.1 i).2.2.2.2) = d → (∀ f', f' < f → ¬ ∀ k, k < (Q.2.1 i).2.2.2.2 → okW E X l t Q.2.2.2 (Q.2.1 i).2.2.2.1 f' k) → f < 100 →
    Go m_Mo_hasPhrase 10 [some (.ref 48), some (.int (nI t)), some (.int (nI i)), some (.int (nI (Q.2.1 i).2.2.2.2)), some (.int (nI f)), X5, X6, X7] [] (hM T I B S D) (fun r h' => r = some (.int (b01 (phQ E X l t Q.2.2.2 (Q.2.1 i).2.2.2.1 (Q.2.1 i).2.2.2.2))) ∧ ∃ B' μ', h' = hM T I B' S D ∧ wsc 6032 B μ B' μ') := by
  intro d
  induction d with
  | zero =>
    intro f X5 X6 X7 B μ hq hd hno hf
    obtain ⟨h1, h2, h3, h4, h5, h6, h7⟩ := id hq
    obtain ⟨t40, l3, b3, b5, c48, hwd⟩ := hq.txt ht hl
    have ct : (nI t).toNatClampNeg = t := nI_clamp (by omega)
    iterate 3 refine go_s rfl rfl rfl trivial ?_
    rw [nI_add]
    iterate 3 refine go_s rfl rfl rfl trivial ?_
    refine go_s rfl rfl rfl ?_ ?_
    · exact vp_in_nI (by omega) (by omega)
    simp only [ct, b5]
    iterate 1 refine go_s rfl rfl rfl trivial ?_
    refine go_if (fun _ => ?_) (fun hc => absurd ((nI_ltI (by omega) (by omega)).mpr (by omega)) hc)
    iterate 1 refine go_s rfl rfl rfl trivial ?_
    refine go_r rfl rfl rfl (Or.inl rfl) ⟨?_, B, μ, rfl, wsc.rf h1⟩
    rw [b01_f]
    rintro ⟨f', q1, q2⟩
    exact hno f' (by omega) q2
  | succ d ih =>
    intro f X5 X6 X7 B μ hq hd hno hf
    obtain ⟨h1, h2, h3, h4, h5, h6, h7⟩ := id hq
    obtain ⟨t40, l3, b3, b5, c48, hwd⟩ := hq.txt ht hl
    have ct : (nI t).toNatClampNeg = t := nI_clamp (by omega)
    iterate 3 refine go_s rfl rfl rfl trivial ?_
    rw [nI_add]
    iterate 3 refine go_s rfl rfl rfl trivial ?_
    refine go_s rfl rfl rfl ?_ ?_
    · exact vp_in_nI (by omega) (by omega)
    simp only [ct, b5]
    iterate 1 refine go_s rfl rfl rfl trivial ?_
    refine go_if (fun hc => absurd ((nI_ltI (by omega) (by omega)).mp hc) (by omega)) (fun _ => ?_)
    iterate 4 refine go_s rfl rfl rfl trivial ?_
    refine l_hp29 ht hl hi (by omega) hqn (Q.2.1 i).2.2.2.2 0 X7 B μ hq (by omega) (fun j hj => absurd hj (Nat.not_lt_zero j)) (fun g k' X7 B1 μ1 hs1 hg => ?_)
    iterate 2 refine go_s rfl rfl rfl trivial ?_
    rcases hg with ⟨rfl, hg⟩ | ⟨rfl, hg⟩
    · refine go_if (fun hc => absurd hc (by decide)) (fun _ => ?_)
      iterate 1 refine go_s rfl rfl rfl trivial ?_
      refine go_r rfl rfl rfl (Or.inr rfl) ⟨?_, B1, μ1, rfl, hs1⟩
      rw [b01_t ⟨f, by omega, hg⟩]
    · refine go_if (fun _ => ?_) (fun hc => absurd rfl hc)
      iterate 2 refine go_s rfl rfl rfl trivial ?_
      rw [nI_1]
      refine (ih (f + 1) _ _ _ B1 μ1 (hq.keepc hs1 (by omega)) (by omega) (fun f' hf' => ?_) (by omega)).mono fun r h' h => ?_
      · rcases Nat.lt_or_ge f' f with h | h
        · exact hno f' h
        · rw [show f' = f by omega]
          exact hg
      · obtain ⟨g1, B2, μ2, g2, g3⟩ := h
        exact ⟨g1, B2, μ2, g2, hs1.tr g3⟩
theorem c_hasPhrase {t l i : Nat} {B : Nat → Nat → Int32} {μ : Nat → List Nat} (hq : qS X E Q I B μ) (ht : t < xnt X) (hl : xlg X t = some l) (hi : i < Q.1) (hqn : (Q.2.1 i).2.2.2.1 + (Q.2.1 i).2.2.2.2 ≤ Q.2.2.1) :
    Do m_Mo_hasPhrase [.ref 48, .int (nI t), .int (nI i)] (hM T I B S D) (fun r h' => r = some (.int (b01 (phQ E X l t Q.2.2.2 (Q.2.1 i).2.2.2.1 (Q.2.1 i).2.2.2.2))) ∧ ∃ B' μ', h' = hM T I B' S D ∧ wsc 6032 B μ B' μ') := by
  obtain ⟨h1, h2, h3, h4, h5, h6, h7⟩ := id hq
  obtain ⟨m12, m13, m14, m15⟩ := h4.1 i hi
  have ci : (nI i).toNatClampNeg = i := nI_clamp (by omega)
  iterate 3 refine go_s rfl rfl rfl trivial ?_
  refine go_s rfl rfl rfl ?_ ?_
  · exact vp_in_nI (by omega) (by omega)
  simp only [ci, m15]
  iterate 3 refine go_s rfl rfl rfl trivial ?_
  exact l_hp10 ht hl hi hqn _ 0 none none none B μ hq rfl (fun f' hf' => absurd hf' (Nat.not_lt_zero f')) (by omega)
theorem srt_and (q : tx_q) (hk : q.2.1 < 3) : nI (srt q) &&& 6 = nI (if q.2.1 = 2 then 4 else if q.2.1 = 1 then 2 else 0) := by
  obtain ⟨r, k, b, f, n⟩ := q
  have key : ∀ (k : Nat), k < 3 → ∀ (b : Bool), nI (srt (0, k, b, 0, 0)) &&& 6 = nI (if k = 2 then 4 else if k = 1 then 2 else 0) := by decide +kernel
  exact key k hk b
theorem srt_mod (q : tx_q) (hk : q.2.1 < 3) : nI (srt q) - nI (srt q) / 2 * 2 = nI (if q.2.2.1 = true then 1 else 0) := by
  obtain ⟨r, k, b, f, n⟩ := q
  have key : ∀ (k : Nat), k < 3 → ∀ (b : Bool), nI (srt (0, k, b, 0, 0)) - nI (srt (0, k, b, 0, 0)) / 2 * 2 = nI (if b = true then 1 else 0) := by decide +kernel
  exact key k hk b
theorem srt_zero (q : tx_q) (hk : q.2.1 < 3) : nI (srt q) = 0 ↔ (q.2.1 = 0 ∧ q.2.2.1 = false) := by
  obtain ⟨r, k, b, f, n⟩ := q
  have key : ∀ (k : Nat), k < 3 → ∀ (b : Bool), (nI (srt (0, k, b, 0, 0)) = 0 ↔ (k = 0 ∧ b = false)) := by decide +kernel
  exact key k hk b
/-- whether a text answers a part -/
theorem c_answersPart {t l i : Nat} {B : Nat → Nat → Int32} {μ : Nat → List Nat} (hq : qS X E Q I B μ) (ht : t < xnt X) (hl : xlg X t = some l) (hi : i < Q.1) (hqn : (Q.2.1 i).2.2.2.1 + (Q.2.1 i).2.2.2.2 ≤ Q.2.2.1) (hk3 : (Q.2.1 i).2.1 < 3) (hn1 : 1 ≤ (Q.2.1 i).2.2.2.2) :
    Do m_Mo_answersPart [.ref 48, .int (nI t), .int (nI i)] (hM T I B S D) (fun r h' => r = some (.int (b01 (paQ E X l t Q.2.2.2 (Q.2.1 i)))) ∧ ∃ B' μ', h' = hM T I B' S D ∧ wsc 6032 B μ B' μ') := by
  obtain ⟨h1, h2, h3, h4, h5, h6, h7⟩ := id hq
  obtain ⟨m12, m13, m14, m15⟩ := h4.1 i hi
  obtain ⟨t40, l3, b3, b5, c48, hwd⟩ := hq.txt ht hl
  have ci : (nI i).toNatClampNeg = i := nI_clamp (by omega)
  have ct : (nI t).toNatClampNeg = t := nI_clamp (by omega)
  have hwq : μ (4016 + (Q.2.1 i).2.2.2.1) = Q.2.2.2 (Q.2.1 i).2.2.2.1 := h4.2 _ (by omega)
  have tl : ∀ v b, tmQ E X l t b v ≤ 48 := fun v b => Nat.le_trans (cnt_le _ _) c48
  iterate 3 refine go_s rfl rfl rfl trivial ?_
  refine go_s rfl rfl rfl ?_ ?_
  · exact vp_in_nI (by omega) (by omega)
  simp only [ci, m13]
  iterate 2 refine go_s rfl rfl rfl trivial ?_
  rw [srt_and _ hk3]
  iterate 4 refine go_s rfl rfl rfl trivial ?_
  refine go_s rfl rfl rfl ?_ ?_
  · exact vp_in_nI (by omega) (by omega)
  simp only [ci, m14]
  by_cases k2 : (Q.2.1 i).2.1 = 2
  · rw [if_pos k2, paQ, if_pos k2]
    iterate 4 refine go_s rfl rfl rfl trivial ?_
    refine go_if (fun hc => absurd rfl hc) (fun _ => ?_)
    iterate 3 refine go_s rfl rfl rfl trivial ?_
    refine go_c rfl rfl rfl (c_hasPhrase hq ht hl hi hqn) ?_
    rintro r h0 ⟨rfl, B1, μ1, rfl, hs1⟩
    exact go_r rfl rfl rfl (b01_g _) ⟨rfl, B1, μ1, rfl, hs1⟩
  · rw [if_neg k2, paQ, if_neg k2]
    by_cases k1 : (Q.2.1 i).2.1 = 1
    · rw [if_pos k1, if_pos k1]
      iterate 4 refine go_s rfl rfl rfl trivial ?_
      refine go_if (fun _ => ?_) (fun hc => absurd (by decide) hc)
      iterate 3 refine go_s rfl rfl rfl trivial ?_
      refine go_if (fun hc => absurd rfl hc) (fun _ => ?_)
      iterate 4 refine go_s rfl rfl rfl trivial ?_
      refine go_c rfl rfl rfl (c_tms hq ht hl (a := 4016 + (Q.2.1 i).2.2.2.1) (f := 1) (by omega) (by omega) (Or.inr rfl) hwq) ?_
      rintro r h0 ⟨rfl, B1, μ1, rfl, hs1, -⟩
      have := tl (Q.2.2.2 (Q.2.1 i).2.2.2.1) 1
      iterate 1 refine go_s rfl rfl rfl trivial ?_
      refine go_if (fun hc => ?_) (fun hc => ?_)
      · have : ¬ 0 < tmQ E X l t 1 (Q.2.2.2 (Q.2.1 i).2.2.2.1) := fun q => nI_nle q (by omega) hc
        iterate 1 refine go_s rfl rfl rfl trivial ?_
        refine go_r rfl rfl rfl (Or.inl rfl) ⟨by rw [b01_f this], B1, μ1, rfl, hs1⟩
      · have : 0 < tmQ E X l t 1 (Q.2.2.2 (Q.2.1 i).2.2.2.1) := Nat.pos_of_ne_zero fun q => hc (by rw [q]; decide)
        iterate 2 refine go_s rfl rfl rfl trivial ?_
        refine go_r rfl rfl rfl (Or.inr rfl) ⟨by rw [b01_t this], B1, μ1, rfl, hs1⟩
    · rw [if_neg k1, if_neg k1]
      iterate 4 refine go_s rfl rfl rfl trivial ?_
      refine go_if (fun _ => ?_) (fun hc => absurd (by decide) hc)
      iterate 3 refine go_s rfl rfl rfl trivial ?_
      refine go_if (fun _ => ?_) (fun hc => absurd (by decide) hc)
      iterate 4 refine go_s rfl rfl rfl trivial ?_
      refine go_s rfl rfl rfl ?_ ?_
      · exact vp_in_nI (by omega) (by omega)
      simp only [ct, b3]
      iterate 1 refine go_s rfl rfl rfl trivial ?_
      refine go_c rfl rfl rfl (c_isStop_E h1 h2 (a := 4016 + (Q.2.1 i).2.2.2.1) (by omega) l3) ?_
      rintro r h0 ⟨rfl, rfl⟩
      rw [hwq]
      iterate 1 refine go_s rfl rfl rfl trivial ?_
      refine go_if (fun hc => ?_) (fun hc => ?_)
      · have hn := b01_eq0.mp hc
        obtain ⟨u, hu⟩ : ∃ u, E l (Q.2.2.2 (Q.2.1 i).2.2.2.1) = some u := by
          cases q : E l (Q.2.2.2 (Q.2.1 i).2.2.2.1) with
          | none => exact absurd q hn
          | some u => exact ⟨u, rfl⟩
        iterate 4 refine go_s rfl rfl rfl trivial ?_
        refine go_s rfl rfl rfl ?_ ?_
        · exact vp_in_nI (by omega) (by omega)
        simp only [ct, b3]
        iterate 2 refine go_s rfl rfl rfl trivial ?_
        refine go_c rfl rfl rfl (c_stemTo_E h1 h2 l3 (a := 4016 + (Q.2.1 i).2.2.2.1) (to := 6033) (by omega) (by omega) (by omega) (by omega) (by rw [hwq]; exact hu)) ?_
        rintro r h0 ⟨rfl, B1, rfl, hs1, hw1⟩
        have w1 : wsc 6032 B μ B1 (va_up μ 6033 u) := wsc.up hs1 hw1 (by omega)
        have hq1 := hq.keepc w1 (by omega)
        iterate 4 refine go_s rfl rfl rfl trivial ?_
        refine go_c rfl rfl rfl (c_tms hq1 ht hl (a := 6033) (f := 0) (v := u) (by omega) (by omega) (Or.inl rfl) (va_up_self _ _ _)) ?_
        rintro r h0 ⟨rfl, B2, μ2, rfl, hs2, -⟩
        have := tl u 0
        have hiff : (∃ u, E l (Q.2.2.2 (Q.2.1 i).2.2.2.1) = some u ∧ 0 < tmQ E X l t 0 u) ↔ 0 < tmQ E X l t 0 u := by
          constructor
          · rintro ⟨u', q1, q2⟩
            rw [hu] at q1
            cases q1
            exact q2
          · exact fun q => ⟨u, hu, q⟩
        rw [b01_iff hiff]
        iterate 1 refine go_s rfl rfl rfl trivial ?_
        refine go_if (fun hc => ?_) (fun hc => ?_)
        · have : ¬ 0 < tmQ E X l t 0 u := fun q => nI_nle q (by omega) hc
          iterate 1 refine go_s rfl rfl rfl trivial ?_
          refine go_r rfl rfl rfl (Or.inl rfl) ⟨by rw [b01_f this], B2, μ2, rfl, w1.tr hs2⟩
        · have : 0 < tmQ E X l t 0 u := Nat.pos_of_ne_zero fun q => hc (by rw [q]; decide)
          iterate 2 refine go_s rfl rfl rfl trivial ?_
          refine go_r rfl rfl rfl (Or.inr rfl) ⟨by rw [b01_t this], B2, μ2, rfl, w1.tr hs2⟩
      · have hn : E l (Q.2.2.2 (Q.2.1 i).2.2.2.1) = none := Classical.not_not.mp fun q => hc (b01_f q)
        iterate 1 refine go_s rfl rfl rfl trivial ?_
        refine go_r rfl rfl rfl (Or.inl rfl) ⟨?_, B, μ, rfl, wsc.rf h1⟩
        rw [b01_f]
        rintro ⟨u, q1, -⟩
        rw [hn] at q1
        cases q1
/-- what a question's parts are like -/
def qfit (Q : tx_Q) : Prop := ∀ i, i < Q.1 → (Q.2.1 i).2.2.2.1 + (Q.2.1 i).2.2.2.2 ≤ Q.2.2.1 ∧ (Q.2.1 i).2.1 < 3 ∧ 1 ≤ (Q.2.1 i).2.2.2.2 ∧ (Q.2.1 i).1 < 1000
theorem l_ar2 {t l row : Nat} (hf : qfit Q) (ht : t < xnt X) (hl : xlg X t = some l) (hrow : row < 1000) : ∀ (d p : Nat) (B : Nat → Nat → Int32) (μ : Nat → List Nat), qS X E Q I B μ → Q.1 = p + d → (∀ j, j < p → (Q.2.1 j).1 = row → (paQ E X l t Q.2.2.2 (Q.2.1 j) ↔ (Q.2.1 j).2.2.1 = false)) →
    Go m_Mo_answersRow 2 [some (.ref 48), some (.int (nI t)), some (.int (nI row)), some (.int (nI p))] [] (hM T I B S D) (fun r h' => r = some (.int (b01 (rwQ E X l t Q row))) ∧ ∃ B' μ', h' = hM T I B' S D ∧ wsc 6032 B μ B' μ') := by
  intro d
  induction d with
  | zero =>
    intro p B μ hq hd hok
    obtain ⟨h1, h2, h3, h4, h5, h6, h7⟩ := id hq
    have ep : p = Q.1 := by omega
    subst ep
    iterate 3 refine go_s rfl rfl rfl trivial ?_
    rw [h7]
    iterate 1 refine go_s rfl rfl rfl trivial ?_
    refine go_if (fun _ => ?_) (fun hc => absurd (Int32.le_refl _) hc)
    iterate 1 refine go_s rfl rfl rfl trivial ?_
    exact go_r rfl rfl rfl (Or.inr rfl) ⟨by rw [b01_t (show rwQ E X l t Q row from hok)], B, μ, rfl, wsc.rf h1⟩
  | succ d ih =>
    intro p B μ hq hd hok
    obtain ⟨h1, h2, h3, h4, h5, h6, h7⟩ := id hq
    obtain ⟨m12, m13, m14, m15⟩ := h4.1 p (by omega)
    obtain ⟨f1, f2, f3, f4⟩ := hf p (by omega)
    have cp : (nI p).toNatClampNeg = p := nI_clamp (by omega)
    have next : ∀ (B1 : Nat → Nat → Int32) (μ1 : Nat → List Nat), wsc 6032 B μ B1 μ1 → ((Q.2.1 p).1 = row → (paQ E X l t Q.2.2.2 (Q.2.1 p) ↔ (Q.2.1 p).2.2.1 = false)) → Go m_Mo_answersRow 47 [some (.ref 48), some (.int (nI t)), some (.int (nI row)), some (.int (nI p))] [] (hM T I B1 S D) (fun r h' => r = some (.int (b01 (rwQ E X l t Q row))) ∧ ∃ B' μ', h' = hM T I B' S D ∧ wsc 6032 B μ B' μ') := by
      intro B1 μ1 hs1 hp
      iterate 2 refine go_s rfl rfl rfl trivial ?_
      rw [nI_1]
      refine (ih (p + 1) B1 μ1 (hq.keepc hs1 (by omega)) (by omega) (fun j hj => ?_)).mono fun r h' h => ?_
      · rcases Nat.lt_or_ge j p with h | h
        · exact hok j h
        · rw [show j = p by omega]; exact hp
      · obtain ⟨g1, B2, μ2, g2, g3⟩ := h
        exact ⟨g1, B2, μ2, g2, hs1.tr g3⟩
    iterate 3 refine go_s rfl rfl rfl trivial ?_
    rw [h7]
    iterate 1 refine go_s rfl rfl rfl trivial ?_
    refine go_if (fun hc => absurd hc (nI_ge (by omega) (by omega))) (fun _ => ?_)
    iterate 3 refine go_s rfl rfl rfl trivial ?_
    refine go_s rfl rfl rfl ?_ ?_
    · exact vp_in_nI (by omega) (by omega)
    simp only [cp, m12]
    iterate 2 refine go_s rfl rfl rfl trivial ?_
    refine go_if (fun hc => ?_) (fun hc => ?_)
    · exact next B μ (wsc.rf h1) (fun q => absurd (by rw [q]) hc)
    · have er : (Q.2.1 p).1 = row := nI_inj (by omega) (by omega) (Classical.not_not.mp hc)
      iterate 3 refine go_s rfl rfl rfl trivial ?_
      refine go_c rfl rfl rfl (c_answersPart hq ht hl (by omega) f1 f2 f3) ?_
      rintro r h0 ⟨rfl, B1, μ1, rfl, hs1⟩
      have m13' : B1 13 p = nI (srt (Q.2.1 p)) := by rw [hs1.1 13 (by omega)]; exact m13
      iterate 3 refine go_s rfl rfl rfl trivial ?_
      refine go_s rfl rfl rfl ?_ ?_
      · exact vp_in_nI (by omega) (by omega)
      simp only [cp, m13']
      iterate 1 refine go_s rfl rfl rfl trivial ?_
      refine go_s rfl rfl rfl ?_ ?_
      · exact fun q => absurd q (by decide)
      rw [srt_mod _ f2]
      have fin : ∀ b : Bool, Go m_Mo_answersRow 42 [some (.ref 48), some (.int (nI t)), some (.int (nI row)), some (.int (nI p))] [.int (b01 (b = false)), .int (b01 (paQ E X l t Q.2.2.2 (Q.2.1 p)))] (hM T I B1 S D) (fun r h' => r = some (.int (b01 (rwQ E X l t Q row))) ∧ ∃ B' μ', h' = hM T I B' S D ∧ wsc 6032 B μ B' μ') ∨ b ≠ (Q.2.1 p).2.2.1 := by
        intro b
        by_cases eb : b = (Q.2.1 p).2.2.1
        · left
          rw [eb]
          iterate 1 refine go_s rfl rfl rfl trivial ?_
          refine go_if (fun hc2 => ?_) (fun hc2 => ?_)
          · refine next B1 μ1 hs1 (fun _ => ?_)
            constructor
            · intro q
              rw [b01_t q] at hc2
              exact Classical.not_not.mp fun q2 => by rw [b01_f q2] at hc2; exact absurd hc2 (by decide)
            · intro q
              rw [b01_t q] at hc2
              exact Classical.not_not.mp fun q2 => by rw [b01_f q2] at hc2; exact absurd hc2 (by decide)
          · iterate 1 refine go_s rfl rfl rfl trivial ?_
            refine go_r rfl rfl rfl (Or.inl rfl) ⟨?_, B1, μ1, rfl, hs1⟩
            rw [b01_f]
            intro q
            exact hc2 (b01_iff (q p (by omega) er))
        · right; exact eb
      cases eb : (Q.2.1 p).2.2.1 with
      | true =>
        rw [if_pos rfl]
        iterate 1 refine go_s rfl rfl rfl trivial ?_
        refine go_if (fun _ => ?_) (fun hc2 => absurd (by decide) hc2)
        iterate 1 refine go_s rfl rfl rfl trivial ?_
        have := (fin true).resolve_right (fun q => q eb.symm)
        rw [b01_f (P := true = false) (by decide)] at this
        exact this
      | false =>
        rw [if_neg (by decide)]
        iterate 1 refine go_s rfl rfl rfl trivial ?_
        refine go_if (fun hc2 => absurd hc2 (by decide)) (fun _ => ?_)
        iterate 2 refine go_s rfl rfl rfl trivial ?_
        have := (fin false).resolve_right (fun q => q eb.symm)
        rw [b01_t (P := false = false) rfl] at this
        exact this
theorem c_answersRow {t l row : Nat} {B : Nat → Nat → Int32} {μ : Nat → List Nat} (hq : qS X E Q I B μ) (hf : qfit Q) (ht : t < xnt X) (hl : xlg X t = some l) (hrow : row < 1000) :
    Do m_Mo_answersRow [.ref 48, .int (nI t), .int (nI row)] (hM T I B S D) (fun r h' => r = some (.int (b01 (rwQ E X l t Q row))) ∧ ∃ B' μ', h' = hM T I B' S D ∧ wsc 6032 B μ B' μ') := by
  iterate 2 refine go_s rfl rfl rfl trivial ?_
  exact l_ar2 hf ht hl hrow Q.1 0 B μ hq (by omega) (fun j hj => absurd hj (Nat.not_lt_zero j))
theorem c_isAsked {t l : Nat} {f : Int32} {B : Nat → Nat → Int32} {μ : Nat → List Nat} (hX : mtx I B μ (xnt X) (xlg X) (xfd X) (xcn X) (xwd X)) (ht : t < xnt X) (hl : l < 3) :
    Do m_Mo_isAsked [.ref 48, .int (nI t), .int (nI l), .int f] (hM T I B S D) (fun r h' => r = some (.int (b01 (askedP X l t f))) ∧ h' = hM T I B S D) := by
  obtain ⟨x1, x2, x3⟩ := hX
  obtain ⟨k1, k2, k3, k4, k5, k6, k7⟩ := x3 t ht
  have ct : (nI t).toNatClampNeg = t := nI_clamp (by omega)
  have no : ¬ askedP X l t f → Go m_Mo_isAsked 28 [some (.ref 48), some (.int (nI t)), some (.int (nI l)), some (.int f)] [] (hM T I B S D) (fun r h' => r = some (.int (b01 (askedP X l t f))) ∧ h' = hM T I B S D) := by
    intro q
    iterate 1 refine go_s rfl rfl rfl trivial ?_
    exact go_r rfl rfl rfl (Or.inl rfl) ⟨by rw [b01_f q], rfl⟩
  have yes : askedP X l t f → Go m_Mo_isAsked 24 [some (.ref 48), some (.int (nI t)), some (.int (nI l)), some (.int f)] [] (hM T I B S D) (fun r h' => r = some (.int (b01 (askedP X l t f))) ∧ h' = hM T I B S D) := by
    intro q
    iterate 2 refine go_s rfl rfl rfl trivial ?_
    exact go_r rfl rfl rfl (Or.inr rfl) ⟨by rw [b01_t q], rfl⟩
  iterate 3 refine go_s rfl rfl rfl trivial ?_
  refine go_s rfl rfl rfl ?_ ?_
  · exact vp_in_nI (by omega) (by omega)
  simp only [ct, k1]
  iterate 2 refine go_s rfl rfl rfl trivial ?_
  refine go_if (fun hc => ?_) (fun hc => ?_)
  · exact no fun q => hc ((lgI_eq hl k2).mpr q.1)
  · have hlt : xlg X t = some l := (lgI_eq hl k2).mp (Classical.not_not.mp hc)
    iterate 2 refine go_s rfl rfl rfl trivial ?_
    refine go_if (fun hc1 => ?_) (fun hc1 => ?_)
    · exact yes ⟨hlt, Or.inl hc1⟩
    · iterate 3 refine go_s rfl rfl rfl trivial ?_
      refine go_s rfl rfl rfl ?_ ?_
      · exact vp_in_nI (by omega) (by omega)
      simp only [ct, k3]
      iterate 2 refine go_s rfl rfl rfl trivial ?_
      refine go_if (fun hc2 => ?_) (fun hc2 => ?_)
      · exact no fun q => q.2.elim (fun h => hc1 h) (fun h => hc2 h)
      · exact yes ⟨hlt, Or.inr (Classical.not_not.mp hc2)⟩
end MASK1
