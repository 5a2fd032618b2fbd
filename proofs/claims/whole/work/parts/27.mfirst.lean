/-! ===== the reference: texts; which stems come first; how many there are ===== -/
/-- nt texts: the language of each (none: it is gone), field, number of words, words -/
def lgI (o : Option Nat) : Int32 := match o with
  | some l => nI l
  | none => -1
def mtx (I : Nat → Int32) (B : Nat → Nat → Int32) (μ : Nat → List Nat) (nt : Nat) (lg : Nat → Option Nat) (fd cn : Nat → Nat) (wd : Nat → Nat → List Nat) : Prop := I 1 = nI nt ∧ nt ≤ 40 ∧ ∀ t, t < nt → B 3 t = lgI (lg t) ∧ (∀ l, lg t = some l → l < 3) ∧ B 4 t = nI (fd t) ∧ fd t < 4 ∧ B 5 t = nI (cn t) ∧ cn t ≤ 48 ∧ ∀ p, p < cn t → μ (48 * t + p) = wd t p
theorem mtx.keepw {I : Nat → Int32} {B B' : Nat → Nat → Int32} {μ : Nat → List Nat} {nt : Nat} {lg : Nat → Option Nat} {fd cn : Nat → Nat} {wd : Nat → Nat → List Nat} {a : Nat} {w : List Nat} (h : mtx I B μ nt lg fd cn wd) (hs : wsame B B') (ha : 1920 ≤ a) : mtx I B' (va_up μ a w) nt lg fd cn wd := by
  obtain ⟨h1, h2, h3⟩ := h
  refine ⟨h1, h2, fun t ht => ?_⟩
  obtain ⟨k1, k2, k3, k4, k5, k6, k7⟩ := h3 t ht
  refine ⟨by rw [hs 3 (by omega)]; exact k1, k2, by rw [hs 4 (by omega)]; exact k3, k4, by rw [hs 5 (by omega)]; exact k5, k6, fun p hp => ?_⟩
  rw [va_up_ne _ _ (by omega)]
  exact k7 p hp
theorem lgI_eq {o : Option Nat} {l : Nat} (hl : l < 3) (ho : ∀ k, o = some k → k < 3) : lgI o = nI l ↔ o = some l := by
  cases o with
  | none =>
    simp only [lgI]
    constructor
    · intro h
      have h2 : (-1 : Int32) < 0 := by decide
      rw [h] at h2
      exact absurd h2 (nI_pos (by omega))
    · intro h; cases h
  | some k =>
    simp only [lgI]
    have := ho k rfl
    rw [nI_eq (by omega) (by omega)]
    simp
/-- some text up to t, at some place (of t: before p), has the stem v -/
def earQ (E : Nat → List Nat → Option (List Nat)) (lg : Nat → Option Nat) (cn : Nat → Nat) (wd : Nat → Nat → List Nat) (l t p : Nat) (v : List Nat) : Prop := ∃ t' p', t' ≤ t ∧ lg t' = some l ∧ p' < (if t' < t then cn t' else p) ∧ E l (wd t' p') = some v
def fstQ (E : Nat → List Nat → Option (List Nat)) (lg : Nat → Option Nat) (cn : Nat → Nat) (wd : Nat → Nat → List Nat) (l t p : Nat) : Prop := ∃ v, E l (wd t p) = some v ∧ ¬ earQ E lg cn wd l t p v
def sumN (f : Nat → Nat) : Nat → Nat
  | 0 => 0
  | n + 1 => sumN f n + f n
section MFIRST
variable {T : Nat → am_C} {D : List am_C} {I : Nat → Int32} {S : Nat → Int64} {E : Nat → List Nat → Option (List Nat)} {nt : Nat} {lg : Nat → Option Nat} {fd cn : Nat → Nat} {wd : Nat → Nat → List Nat} {Q : Option Value → List am_C → Prop}
/-- the inner loop: k the end of its places -/
theorem l_first2 {l t t0 p0 k : Nat} {v : List Nat} (hl : l < 3) (ht : t < nt) (ht0 : t ≤ t0) (ht40 : t0 < 40) (hlt : lg t = some l) (hk : k = if t < t0 then cn t else p0) (hk2 : k ≤ cn t) : ∀ (d p : Nat) (B : Nat → Nat → Int32) (μ : Nat → List Nat), wm B μ → menv I B μ E → mtx I B μ nt lg fd cn wd → μ 6033 = v → k = p + d →
    (∀ B' w, wsame B B' → wm B' (va_up μ 6032 w) → (∀ p', p' < k → ¬ E l (wd t p') = some v) → Go m_Mo_isFirst 71 [some (.ref 48), some (.int (nI l)), some (.int (nI t0)), some (.int (nI p0)), some (.int (nI t)), some (.int (nI k))] [] (hM T I B' S D) Q) →
    ((∃ p', p' < k ∧ E l (wd t p') = some v) → ∀ B' w, wsame B B' → wm B' (va_up μ 6032 w) → Q (some (.int 0)) (hM T I B' S D)) →
    (∀ p', p' < p → ¬ E l (wd t p') = some v) →
    Go m_Mo_isFirst 26 [some (.ref 48), some (.int (nI l)), some (.int (nI t0)), some (.int (nI p0)), some (.int (nI t)), some (.int (nI p))] [] (hM T I B S D) Q := by
  have ct : (nI t).toNatClampNeg = t := nI_clamp (by omega)
  intro d
  induction d with
  | zero =>
    intro p B μ hw hE hX hv hpk hexit hfound hno
    obtain ⟨x1, x2, x3⟩ := hX
    obtain ⟨k1, k2, k3, k4, k5, k6, k7⟩ := x3 t ht
    have hpk2 : p = k := by omega
    subst hpk2
    iterate 4 refine go_s rfl rfl rfl trivial ?_
    refine go_if (fun hc => ?_) (fun hc => ?_)
    · have hlt2 : ¬ t < t0 := fun q => nI_ge q (by omega) hc
      rw [if_neg hlt2] at hk
      iterate 2 refine go_s rfl rfl rfl trivial ?_
      rw [hk]
      refine go_if (fun hc => ?_) (fun hc => ?_)
      · have := hexit B (μ 6032) (wsame.rf B) (by rw [up_id]; exact hw) hno
        rw [hk] at this
        exact this
      · exact absurd (Int32.le_refl _) hc
    · have hlt2 : t < t0 := Classical.not_not.mp fun q => hc (nI_le (by omega) (by omega))
      rw [if_pos hlt2] at hk
      iterate 3 refine go_s rfl rfl rfl trivial ?_
      refine go_s rfl rfl rfl ?_ ?_
      · exact vp_in_nI (by omega) (by omega)
      simp only [ct, k5]
      iterate 2 refine go_s rfl rfl rfl trivial ?_
      rw [hk]
      refine go_if (fun hc => ?_) (fun hc => ?_)
      · have := hexit B (μ 6032) (wsame.rf B) (by rw [up_id]; exact hw) hno
        rw [hk] at this
        exact this
      · exact absurd (Int32.le_refl _) hc
  | succ d ih =>
    intro p B μ hw hE hX hv hpk hexit hfound hno
    obtain ⟨x1, x2, x3⟩ := id hX
    obtain ⟨k1, k2, k3, k4, k5, k6, k7⟩ := x3 t ht
    have tail : Go m_Mo_isFirst 48 [some (.ref 48), some (.int (nI l)), some (.int (nI t0)), some (.int (nI p0)), some (.int (nI t)), some (.int (nI p))] [] (hM T I B S D) Q := by
      iterate 5 refine go_s rfl rfl rfl trivial ?_
      refine go_c rfl rfl rfl (c_hasAt hw hE (t := t) (p := p) (a := 6033) (f := 0) (by omega) (by omega) hl (by rw [k1, hlt]; rfl) (by omega) (by omega) (Or.inl rfl)) ?_
      rintro r h3 ⟨rfl, B1, w, rfl, hs1, hw1⟩
      rw [hv, k7 p (by omega)]
      have e33 : va_up μ 6032 w 6033 = v := (va_up_ne _ _ (by omega)).trans hv
      iterate 1 refine go_s rfl rfl rfl trivial ?_
      refine go_if (fun hc => ?_) (fun hc => ?_)
      · have hn := b01_eq0.mp hc
        iterate 2 refine go_s rfl rfl rfl trivial ?_
        rw [nI_1]
        refine ih (p + 1) B1 _ hw1 (hE.keepw hs1 (by omega)) (hX.keepw hs1 (by omega)) e33 (by omega) (fun B2 w2 s2 hw2 hno2 => ?_) (fun hf B2 w2 s2 hw2 => ?_) (fun p' hp' => ?_)
        · rw [bx_uu] at hw2
          exact hexit B2 w2 (hs1.tr s2) hw2 hno2
        · rw [bx_uu] at hw2
          exact hfound hf B2 w2 (hs1.tr s2) hw2
        · rcases Nat.lt_or_ge p' p with h | h
          · exact hno p' h
          · rw [show p' = p by omega]
            exact fun q => hn ⟨v, q, Or.inl ⟨rfl, rfl⟩⟩
      · have hn : hasQ 0 (E l (wd t p)) v := Classical.not_not.mp fun q => hc (b01_f q)
        obtain ⟨u, hu, hu2⟩ := hn
        have hu3 : E l (wd t p) = some v := by
          rcases hu2 with ⟨-, q⟩ | ⟨q, -⟩
          · rw [hu, q]
          · exact absurd q (by decide)
        iterate 1 refine go_s rfl rfl rfl trivial ?_
        exact go_r rfl rfl rfl (Or.inl rfl) (hfound ⟨p, by omega, hu3⟩ B1 w hs1 hw1)
    iterate 4 refine go_s rfl rfl rfl trivial ?_
    refine go_if (fun hc => ?_) (fun hc => ?_)
    · have hlt2 : ¬ t < t0 := fun q => nI_ge q (by omega) hc
      rw [if_neg hlt2] at hk
      iterate 2 refine go_s rfl rfl rfl trivial ?_
      refine go_if (fun hc => ?_) (fun hc => ?_)
      · exact absurd hc (nI_ge (by omega) (by omega))
      · exact tail
    · have hlt2 : t < t0 := Classical.not_not.mp fun q => hc (nI_le (by omega) (by omega))
      rw [if_pos hlt2] at hk
      iterate 3 refine go_s rfl rfl rfl trivial ?_
      refine go_s rfl rfl rfl ?_ ?_
      · exact vp_in_nI (by omega) (by omega)
      simp only [ct, k5]
      iterate 2 refine go_s rfl rfl rfl trivial ?_
      refine go_if (fun hc => ?_) (fun hc => ?_)
      · exact absurd hc (nI_ge (by omega) (by omega))
      · exact tail
theorem l_first3 {l t0 p0 : Nat} {v : List Nat} (hl : l < 3) (ht0 : t0 < nt) (hp0 : p0 ≤ cn t0) : ∀ (d t : Nat) (X5 : Option Value) (B : Nat → Nat → Int32) (μ : Nat → List Nat), wm B μ → menv I B μ E → mtx I B μ nt lg fd cn wd → μ 6033 = v → t0 + 1 = t + d →
    (∀ t' p', t' < t → ¬ (lg t' = some l ∧ p' < (if t' < t0 then cn t' else p0) ∧ E l (wd t' p') = some v)) →
    Go m_Mo_isFirst 3 [some (.ref 48), some (.int (nI l)), some (.int (nI t0)), some (.int (nI p0)), some (.int (nI t)), X5] [] (hM T I B S D) (fun r h' => r = some (.int (b01 (¬ earQ E lg cn wd l t0 p0 v))) ∧ ∃ B' w, h' = hM T I B' S D ∧ wsame B B' ∧ wm B' (va_up μ 6032 w)) := by
  intro d
  induction d with
  | zero =>
    intro t X5 B μ hw hE hX hv htd hno
    obtain ⟨x1, x2, x3⟩ := id hX
    iterate 3 refine go_s rfl rfl rfl trivial ?_
    refine go_if (fun hc => ?_) (fun hc => ?_)
    · iterate 1 refine go_s rfl rfl rfl trivial ?_
      refine go_r rfl rfl rfl (Or.inr rfl) ⟨?_, B, μ 6032, rfl, wsame.rf B, by rw [up_id]; exact hw⟩
      rw [b01_t]
      rintro ⟨t', p', q1, q2, q3, q4⟩
      exact hno t' p' (by omega) ⟨q2, q3, q4⟩
    · exact absurd (nI_lt (by omega) (by omega)) hc
  | succ d ih =>
    intro t X5 B μ hw hE hX hv htd hno
    obtain ⟨x1, x2, x3⟩ := id hX
    obtain ⟨k1, k2, k3, k4, k5, k6, k7⟩ := x3 t (by omega)
    have ct : (nI t).toNatClampNeg = t := nI_clamp (by omega)
    have kle : ∀ t, t ≤ t0 → (if t < t0 then cn t else p0) ≤ cn t := by
      intro t h
      split
      · exact Nat.le_refl _
      · rw [show t = t0 by omega]; exact hp0
    iterate 3 refine go_s rfl rfl rfl trivial ?_
    refine go_if (fun hc => ?_) (fun hc => ?_)
    · exact absurd hc (nI_nlt (by omega) (by omega))
    · iterate 3 refine go_s rfl rfl rfl trivial ?_
      refine go_s rfl rfl rfl ?_ ?_
      · exact vp_in_nI (by omega) (by omega)
      simp only [ct, k1]
      iterate 2 refine go_s rfl rfl rfl trivial ?_
      have next : ∀ (B1 : Nat → Nat → Int32) (w : List Nat) (Y5 : Option Value), wsame B B1 → wm B1 (va_up μ 6032 w) → (∀ p', ¬ (lg t = some l ∧ p' < (if t < t0 then cn t else p0) ∧ E l (wd t p') = some v)) →
          Go m_Mo_isFirst 71 [some (.ref 48), some (.int (nI l)), some (.int (nI t0)), some (.int (nI p0)), some (.int (nI t)), Y5] [] (hM T I B1 S D) (fun r h' => r = some (.int (b01 (¬ earQ E lg cn wd l t0 p0 v))) ∧ ∃ B' w, h' = hM T I B' S D ∧ wsame B B' ∧ wm B' (va_up μ 6032 w)) := by
        intro B1 w Y5 hs1 hw1 hno1
        iterate 2 refine go_s rfl rfl rfl trivial ?_
        rw [nI_1]
        refine (ih (t + 1) _ B1 _ hw1 (hE.keepw hs1 (by omega)) (hX.keepw hs1 (by omega)) ((va_up_ne _ _ (by omega)).trans hv) (by omega) (fun t' p' ht' => ?_)).mono fun rr h' h => ?_
        · rcases Nat.lt_or_ge t' t with h | h
          · exact hno t' p' h
          · rw [show t' = t by omega]; exact hno1 p'
        · obtain ⟨g1, B2, w2, g2, g3, g4⟩ := h
          rw [bx_uu] at g4
          exact ⟨g1, B2, w2, g2, hs1.tr g3, g4⟩
      refine go_if (fun hc => ?_) (fun hc => ?_)
      · have hlt : lg t = some l := (lgI_eq hl k2).mp hc
        iterate 2 refine go_s rfl rfl rfl trivial ?_
        refine l_first2 (v := v) (k := if t < t0 then cn t else p0) hl (by omega) (by omega) (by omega) hlt rfl (kle t (by omega)) (if t < t0 then cn t else p0) 0 B μ hw hE hX hv (by omega) (fun B1 w hs1 hw1 hno2 => ?_) (fun hf B1 w hs1 hw1 => ?_) (fun p' hp' => by omega)
        · exact next B1 w _ hs1 hw1 (fun p' q => hno2 p' q.2.1 q.2.2)
        · obtain ⟨p', q1, q2⟩ := hf
          refine ⟨?_, B1, w, rfl, hs1, hw1⟩
          rw [b01_f]
          exact fun q => q ⟨t, p', by omega, hlt, q1, q2⟩
      · have hlt : ¬ lg t = some l := fun q => hc ((lgI_eq hl k2).mpr q)
        iterate 1 refine go_s rfl rfl rfl trivial ?_
        exact next B (μ 6032) X5 (wsame.rf B) (by rw [up_id]; exact hw) (fun p' q => hlt q.1)
end MFIRST
