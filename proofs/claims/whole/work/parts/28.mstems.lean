/-! ===== the reference: languages, how many stems ===== -/
/-- words from k on may have changed, the other rows haven't -/
def wsc (k : Nat) (B : Nat → Nat → Int32) (μ : Nat → List Nat) (B' : Nat → Nat → Int32) (μ' : Nat → List Nat) : Prop := wsame B B' ∧ wm B' μ' ∧ ∀ a, a < k → μ' a = μ a
theorem wsc.rf {k : Nat} {B : Nat → Nat → Int32} {μ : Nat → List Nat} (hw : wm B μ) : wsc k B μ B μ := ⟨wsame.rf B, hw, fun _ _ => rfl⟩
theorem wsc.tr {k : Nat} {B B1 B2 : Nat → Nat → Int32} {μ μ1 μ2 : Nat → List Nat} (h1 : wsc k B μ B1 μ1) (h2 : wsc k B1 μ1 B2 μ2) : wsc k B μ B2 μ2 := ⟨h1.1.tr h2.1, h2.2.1, fun a ha => (h2.2.2 a ha).trans (h1.2.2 a ha)⟩
theorem wsc.up {k a : Nat} {B B' : Nat → Nat → Int32} {μ : Nat → List Nat} {w : List Nat} (hs : wsame B B') (hw : wm B' (va_up μ a w)) (ha : k ≤ a) : wsc k B μ B' (va_up μ a w) := ⟨hs, hw, fun c hc => va_up_ne _ _ (by omega)⟩
theorem menv.keepc {I : Nat → Int32} {k : Nat} {B B' : Nat → Nat → Int32} {μ μ' : Nat → List Nat} {E : Nat → List Nat → Option (List Nat)} (h : menv I B μ E) (hs : wsc k B μ B' μ') (hk : 3968 ≤ k) : menv I B' μ' E :=
  h.keep rfl (hs.1 8 (by omega)) (hs.1 9 (by omega)) (fun c _ h2 => hs.2.2 c (by omega))
theorem mtx.keepc {I : Nat → Int32} {k : Nat} {B B' : Nat → Nat → Int32} {μ μ' : Nat → List Nat} {nt : Nat} {lg : Nat → Option Nat} {fd cn : Nat → Nat} {wd : Nat → Nat → List Nat} (h : mtx I B μ nt lg fd cn wd) (hs : wsc k B μ B' μ') (hk : 1920 ≤ k) : mtx I B' μ' nt lg fd cn wd := by
  obtain ⟨h1, h2, h3⟩ := h
  refine ⟨h1, h2, fun t ht => ?_⟩
  obtain ⟨k1, k2, k3, k4, k5, k6, k7⟩ := h3 t ht
  exact ⟨by rw [hs.1 3 (by omega)]; exact k1, k2, by rw [hs.1 4 (by omega)]; exact k3, k4, by rw [hs.1 5 (by omega)]; exact k5, k6, fun p hp => (hs.2.2 _ (by omega)).trans (k7 p hp)⟩
def isL (x : Int32) : Prop := 0 ≤ x ∧ x < 3
theorem isL_nat {x : Int32} (h : isL x) : ∃ l, l < 3 ∧ x = nI l := by
  obtain ⟨j, hj, rfl⟩ := nI_of (x := x) (Int32.not_lt.mpr h.1)
  exact ⟨j, (nI_ltI hj (by omega)).mp h.2, rfl⟩
theorem c_isLanguage (h : List am_C) (x : Int32) : Do m_Mo_isLanguage [.int x] h (fun r h' => r = some (.int (b01 (isL x))) ∧ h' = h) := by
  iterate 2 refine go_s rfl rfl rfl trivial ?_
  refine go_if (fun hc => ?_) (fun hc => ?_)
  · iterate 1 refine go_s rfl rfl rfl trivial ?_
    refine go_r rfl rfl rfl (Or.inl rfl) ⟨?_, rfl⟩
    rw [b01_f (fun q => absurd hc (Int32.not_lt.mpr q.1))]
  · iterate 3 refine go_s rfl rfl rfl trivial ?_
    refine go_if (fun hc2 => ?_) (fun hc2 => ?_)
    · iterate 1 refine go_s rfl rfl rfl trivial ?_
      refine go_r rfl rfl rfl (Or.inl rfl) ⟨?_, rfl⟩
      rw [b01_f (fun q => absurd q.2 (Int32.not_lt.mpr hc2))]
    · iterate 2 refine go_s rfl rfl rfl trivial ?_
      refine go_r rfl rfl rfl (Or.inr rfl) ⟨?_, rfl⟩
      rw [b01_t ⟨Int32.not_lt.mp hc, Int32.not_le.mp hc2⟩]
section MSTEMS
variable {T : Nat → am_C} {D : List am_C} {I : Nat → Int32} {S : Nat → Int64} {E : Nat → List Nat → Option (List Nat)} {nt : Nat} {lg : Nat → Option Nat} {fd cn : Nat → Nat} {wd : Nat → Nat → List Nat} {Q : Option Value → List am_C → Prop}
theorem c_isFirst {B : Nat → Nat → Int32} {μ : Nat → List Nat} {l t0 p0 : Nat} (hw : wm B μ) (hE : menv I B μ E) (hX : mtx I B μ nt lg fd cn wd) (hl : l < 3) (ht0 : t0 < nt) (hp0 : p0 ≤ cn t0) :
    Do m_Mo_isFirst [.ref 48, .int (nI l), .int (nI t0), .int (nI p0)] (hM T I B S D) (fun r h' => r = some (.int (b01 (¬ earQ E lg cn wd l t0 p0 (μ 6033)))) ∧ ∃ B' w, h' = hM T I B' S D ∧ wsame B B' ∧ wm B' (va_up μ 6032 w)) := by
  iterate 2 refine go_s rfl rfl rfl trivial ?_
  exact l_first3 hl ht0 hp0 (t0 + 1) 0 _ B μ hw hE hX rfl (by omega) (fun t' p' h => by omega)
theorem cnt_pos {P : Nat → Prop} {n : Nat} (x : Nat) (hp : P n) : nI (x + cnt P n) + 1 = nI (x + cnt P (n + 1)) := by rw [cnt_t hp, nI_1]; rfl
theorem l_stems2 {l t x : Nat} (hl : l < 3) (ht : t < nt) (hlt : lg t = some l) : ∀ (d p : Nat) (B : Nat → Nat → Int32) (μ : Nat → List Nat), wm B μ → menv I B μ E → mtx I B μ nt lg fd cn wd → cn t = p + d →
    (∀ B' μ', wsc 6032 B μ B' μ' → Go m_Mo_stems 106 [some (.ref 48), some (.int (nI l)), some (.int (nI (x + cnt (fstQ E lg cn wd l t) (cn t)))), some (.int (nI t)), some (.int (nI (cn t)))] [] (hM T I B' S D) Q) →
    Go m_Mo_stems 37 [some (.ref 48), some (.int (nI l)), some (.int (nI (x + cnt (fstQ E lg cn wd l t) p))), some (.int (nI t)), some (.int (nI p))] [] (hM T I B S D) Q := by
  have ct : nt ≤ 40 → (nI t).toNatClampNeg = t := fun h => nI_clamp (by omega)
  intro d
  induction d with
  | zero =>
    intro p B μ hw hE hX hpd hexit
    obtain ⟨x1, x2, x3⟩ := id hX
    obtain ⟨k1, k2, k3, k4, k5, k6, k7⟩ := x3 t ht
    have ep : p = cn t := by omega
    subst ep
    iterate 4 refine go_s rfl rfl rfl trivial ?_
    refine go_s rfl rfl rfl ?_ ?_
    · exact vp_in_nI (by omega) (by omega)
    simp only [ct x2, k5]
    iterate 1 refine go_s rfl rfl rfl trivial ?_
    refine go_if (fun hc => ?_) (fun hc => ?_)
    · exact hexit B μ (wsc.rf hw)
    · exact absurd (Int32.le_refl _) hc
  | succ d ih =>
    intro p B μ hw hE hX hpd hexit
    obtain ⟨x1, x2, x3⟩ := id hX
    obtain ⟨k1, k2, k3, k4, k5, k6, k7⟩ := x3 t ht
    have e48 : (48 : Int32) * nI t + nI p = nI (48 * t + p) := by
      rw [show (48 : Int32) = nI 48 from rfl, pk_mul, nI_add]
    iterate 4 refine go_s rfl rfl rfl trivial ?_
    refine go_s rfl rfl rfl ?_ ?_
    · exact vp_in_nI (by omega) (by omega)
    simp only [ct x2, k5]
    iterate 1 refine go_s rfl rfl rfl trivial ?_
    refine go_if (fun hc => ?_) (fun hc => ?_)
    · exact absurd hc (nI_ge (by omega) (by omega))
    · have next : ∀ (B1 : Nat → Nat → Int32) (μ1 : Nat → List Nat) (q : Int32), wsc 6032 B μ B1 μ1 → q = nI (x + cnt (fstQ E lg cn wd l t) (p + 1)) →
          Go m_Mo_stems 100 [some (.ref 48), some (.int (nI l)), some (.int q), some (.int (nI t)), some (.int (nI p))] [] (hM T I B1 S D) Q := by
        rintro B1 μ1 q hs1 rfl
        iterate 2 refine go_s rfl rfl rfl trivial ?_
        rw [nI_1]
        exact ih (p + 1) B1 μ1 hs1.2.1 (hE.keepc hs1 (by omega)) (hX.keepc hs1 (by omega)) (by omega) (fun B2 μ2 hs2 => hexit B2 μ2 (hs1.tr hs2))
      iterate 7 refine go_s rfl rfl rfl trivial ?_
      rw [e48]
      refine go_c rfl rfl rfl (c_isStop_E hw hE (a := 48 * t + p) (by omega) hl) ?_
      rintro r h3 ⟨rfl, rfl⟩
      rw [k7 p (by omega)]
      iterate 1 refine go_s rfl rfl rfl trivial ?_
      refine go_if (fun hc => ?_) (fun hc => ?_)
      · have hn : ¬ E l (wd t p) = none := b01_eq0.mp hc
        obtain ⟨u, hu⟩ : ∃ u, E l (wd t p) = some u := by
          cases q : E l (wd t p) with
          | none => exact absurd q hn
          | some u => exact ⟨u, rfl⟩
        iterate 7 refine go_s rfl rfl rfl trivial ?_
        rw [e48]
        iterate 1 refine go_s rfl rfl rfl trivial ?_
        refine go_c rfl rfl rfl (c_stemTo_E hw hE hl (a := 48 * t + p) (to := 6033) (by omega) (by omega) (by omega) (by omega) (by rw [k7 p (by omega)]; exact hu)) ?_
        rintro r h3 ⟨rfl, B1, rfl, hs1, hw1⟩
        have w1 : wsc 6032 B μ B1 (va_up μ 6033 u) := wsc.up hs1 hw1 (by omega)
        iterate 5 refine go_s rfl rfl rfl trivial ?_
        refine go_c rfl rfl rfl (c_isFirst hw1 (hE.keepc w1 (by omega)) (hX.keepc w1 (by omega)) hl ht (p0 := p) (by omega)) ?_
        rintro r h3 ⟨rfl, B2, w2, rfl, hs2, hw2⟩
        rw [va_up_self]
        have w2 : wsc 6032 B μ B2 _ := w1.tr (wsc.up hs2 hw2 (by omega))
        have hiff : fstQ E lg cn wd l t p ↔ ¬ earQ E lg cn wd l t p u := by
          constructor
          · rintro ⟨v, hv, hv2⟩
            rw [hu] at hv
            cases hv
            exact hv2
          · exact fun q => ⟨u, hu, q⟩
        iterate 1 refine go_s rfl rfl rfl trivial ?_
        refine go_if (fun hc2 => ?_) (fun hc2 => ?_)
        · have hq := b01_eq0.mp hc2
          iterate 3 refine go_s rfl rfl rfl trivial ?_
          exact next B2 _ _ w2 (by rw [cnt_f (fun q => hq (hiff.mp q))]; exact nI_add _ 0)
        · have hq := Classical.not_not.mp fun q => hc2 (b01_f q)
          iterate 4 refine go_s rfl rfl rfl trivial ?_
          exact next B2 _ _ w2 (cnt_pos x (hiff.mpr hq))
      · have hn : E l (wd t p) = none := Classical.not_not.mp fun q => hc (b01_f q)
        iterate 1 refine go_s rfl rfl rfl trivial ?_
        refine next B μ _ (wsc.rf hw) ?_
        rw [cnt_f]
        rintro ⟨v, hv, -⟩
        rw [hn] at hv
        cases hv
/-- of one text -/
noncomputable def stT (E : Nat → List Nat → Option (List Nat)) (lg : Nat → Option Nat) (cn : Nat → Nat) (wd : Nat → Nat → List Nat) (l t : Nat) : Nat := if lg t = some l then cnt (fstQ E lg cn wd l t) (cn t) else 0
theorem l_stems1 {l : Nat} (hl : l < 3) : ∀ (d t : Nat) (X4 : Option Value) (B : Nat → Nat → Int32) (μ : Nat → List Nat), wm B μ → menv I B μ E → mtx I B μ nt lg fd cn wd → nt = t + d →
    Go m_Mo_stems 13 [some (.ref 48), some (.int (nI l)), some (.int (nI (sumN (stT E lg cn wd l) t))), some (.int (nI t)), X4] [] (hM T I B S D) (fun r h' => r = some (.int (nI (sumN (stT E lg cn wd l) nt))) ∧ ∃ B' μ', h' = hM T I B' S D ∧ wsc 6032 B μ B' μ') := by
  intro d
  induction d with
  | zero =>
    intro t X4 B μ hw hE hX htd
    obtain ⟨x1, x2, x3⟩ := id hX
    have et : t = nt := by omega
    subst et
    iterate 3 refine go_s rfl rfl rfl trivial ?_
    rw [x1]
    iterate 1 refine go_s rfl rfl rfl trivial ?_
    refine go_if (fun hc => ?_) (fun hc => ?_)
    · iterate 1 refine go_s rfl rfl rfl trivial ?_
      exact go_r rfl rfl rfl trivial ⟨rfl, B, μ, rfl, wsc.rf hw⟩
    · exact absurd (Int32.le_refl _) hc
  | succ d ih =>
    intro t X4 B μ hw hE hX htd
    obtain ⟨x1, x2, x3⟩ := id hX
    obtain ⟨k1, k2, k3, k4, k5, k6, k7⟩ := x3 t (by omega)
    have ct : (nI t).toNatClampNeg = t := nI_clamp (by omega)
    iterate 3 refine go_s rfl rfl rfl trivial ?_
    rw [x1]
    iterate 1 refine go_s rfl rfl rfl trivial ?_
    refine go_if (fun hc => ?_) (fun hc => ?_)
    · exact absurd hc (nI_ge (by omega) (by omega))
    · iterate 3 refine go_s rfl rfl rfl trivial ?_
      refine go_s rfl rfl rfl ?_ ?_
      · exact vp_in_nI (by omega) (by omega)
      simp only [ct, k1]
      iterate 2 refine go_s rfl rfl rfl trivial ?_
      refine go_if (fun hc => ?_) (fun hc => ?_)
      · have hlt : lg t = some l := (lgI_eq hl k2).mp hc
        iterate 2 refine go_s rfl rfl rfl trivial ?_
        refine l_stems2 (x := sumN (stT E lg cn wd l) t) hl (by omega) hlt (cn t) 0 B μ hw hE hX (by omega) (fun B1 μ1 hs1 => ?_)
        iterate 2 refine go_s rfl rfl rfl trivial ?_
        rw [nI_1]
        have es : sumN (stT E lg cn wd l) (t + 1) = sumN (stT E lg cn wd l) t + cnt (fstQ E lg cn wd l t) (cn t) := by
          simp only [sumN, stT, if_pos hlt]
        rw [← es]
        refine (ih (t + 1) _ B1 μ1 hs1.2.1 (hE.keepc hs1 (by omega)) (hX.keepc hs1 (by omega)) (by omega)).mono fun rr h' h => ?_
        obtain ⟨g1, B2, μ2, g2, g3⟩ := h
        exact ⟨g1, B2, μ2, g2, hs1.tr g3⟩
      · have hlt : ¬ lg t = some l := fun q => hc ((lgI_eq hl k2).mpr q)
        iterate 3 refine go_s rfl rfl rfl trivial ?_
        rw [nI_1]
        have es : sumN (stT E lg cn wd l) (t + 1) = sumN (stT E lg cn wd l) t := by
          simp only [sumN, stT, if_neg hlt, Nat.add_zero]
        have := ih (t + 1) X4 B μ hw hE hX (by omega)
        rw [es] at this
        exact this
/-- stems -/
theorem c_stems {B : Nat → Nat → Int32} {μ : Nat → List Nat} (hw : wm B μ) (hE : menv I B μ E) (hX : mtx I B μ nt lg fd cn wd) (x : Int32) :
    Do m_Mo_stems [.ref 48, .int x] (hM T I B S D) (fun r h' => ((¬ isL x ∧ r = some (.int (-1))) ∨ ∃ l, l < 3 ∧ x = nI l ∧ r = some (.int (nI (sumN (stT E lg cn wd l) nt)))) ∧ ∃ B' μ', h' = hM T I B' S D ∧ wsc 6032 B μ B' μ') := by
  iterate 1 refine go_s rfl rfl rfl trivial ?_
  refine go_c rfl rfl rfl (c_isLanguage _ x) ?_
  rintro r h3 ⟨rfl, rfl⟩
  iterate 1 refine go_s rfl rfl rfl trivial ?_
  refine go_if (fun hc => ?_) (fun hc => ?_)
  · have hq : isL x := Classical.not_not.mp fun q => hc (b01_f q)
    obtain ⟨l, hl, rfl⟩ := isL_nat hq
    iterate 4 refine go_s rfl rfl rfl trivial ?_
    refine (l_stems1 hl nt 0 _ B μ hw hE hX (by omega)).mono fun rr h' h => ⟨Or.inr ⟨l, hl, rfl, h.1⟩, h.2⟩
  · have hq : ¬ isL x := fun q => hc (by rw [b01_t q]; decide)
    iterate 1 refine go_s rfl rfl rfl trivial ?_
    exact go_r rfl rfl rfl trivial ⟨Or.inl ⟨hq, rfl⟩, B, μ, rfl, wsc.rf hw⟩
end MSTEMS
