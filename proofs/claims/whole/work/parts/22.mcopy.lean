/-! ===== the reference's words: a byte more, a copy ===== -/
abbrev hM (T : Nat → am_C) (I : Nat → Int32) (B : Nat → Nat → Int32) (S : Nat → Int64) (D : List am_C) : List am_C := am_hp T (am_M I B S) D
/-- nothing but words has changed -/
def wsame (B B' : Nat → Nat → Int32) : Prop := ∀ i, 2 ≤ i → B' i = B i
theorem wsame.rf (B : Nat → Nat → Int32) : wsame B B := fun _ _ => rfl
theorem wsame.tr {B B1 B2 : Nat → Nat → Int32} (h1 : wsame B B1) (h2 : wsame B1 B2) : wsame B B2 := fun i hi => (h2 i hi).trans (h1 i hi)
theorem wm_len0 {B B' : Nat → Nat → Int32} {μ : Nat → List Nat} {a : Nat} (hw : wm B μ) (ha : a < 6034) (h0 : B' 0 = B 0) (h1 : B' 1 = upd (B 1) a 0) : wm B' (va_up μ a []) := by
  intro c hc
  by_cases e : c = a
  · subst e
    rw [va_up_self, h1]
    refine ⟨by simp, by rw [pk_us]; rfl, fun k hk => by simp at hk, fun x hx => by simp at hx⟩
  · rw [va_up_ne _ _ e, h0, h1, pk_un e]
    exact hw c hc
theorem wm_add {B B' : Nat → Nat → Int32} {μ : Nat → List Nat} {a x : Nat} (hw : wm B μ) (ha : a < 6034) (hl : (μ a).length < 12) (hx : x < 128) (h0 : B' 0 = upd (B 0) (12 * a + (μ a).length) (nI x)) (h1 : B' 1 = upd (B 1) a (nI ((μ a).length + 1))) : wm B' (va_up μ a (μ a ++ [x])) := by
  intro c hc
  by_cases e : c = a
  · subst e
    obtain ⟨w1, w2, w3, w4⟩ := hw c hc
    rw [va_up_self, h0, h1]
    refine ⟨by simp; omega, by rw [pk_us, List.length_append]; rfl, fun k hk => ?_, fun z hz => ?_⟩
    · rw [List.length_append, List.length_singleton] at hk
      rcases Nat.lt_or_ge k (μ c).length with hk2 | hk2
      · rw [pk_un (by omega), w3 k hk2, List.getD_eq_getElem?_getD, List.getD_eq_getElem?_getD, List.getElem?_append_left hk2]
      · have e2 : k = (μ c).length := by omega
        subst e2
        rw [pk_us, List.getD_eq_getElem?_getD, List.getElem?_append_right (Nat.le_refl _)]
        simp
    · rcases List.mem_append.mp hz with h | h
      · exact w4 z h
      · rw [List.mem_singleton.mp h]; exact hx
  · obtain ⟨w1, w2, w3, w4⟩ := hw c hc
    rw [va_up_ne _ _ e, h0, h1, pk_un e]
    exact ⟨w1, w2, fun k hk => by rw [pk_un (by omega)]; exact w3 k hk, w4⟩
section MCOPY
variable {T : Nat → am_C} {D : List am_C} {I : Nat → Int32} {B : Nat → Nat → Int32} {S : Nat → Int64} {μ : Nat → List Nat}
theorem nar_byte {x : Nat} (hx : x < 128) : vp_nar .byte ((nI x).toInt8.toInt32) = nI x := by
  have h : ∀ x : Nat, x < 128 → vp_nar .byte ((nI x).toInt8.toInt32) = nI x := by decide +kernel
  exact h x hx
theorem c_add (hw : wm B μ) {a x : Nat} (ha : a < 6034) (hx : x < 128) : Do m_Mo_add [.ref 48, .int (nI a), .int (nI x)] (hM T I B S D) (fun r h' => r = none ∧ ∃ B', h' = hM T I B' S D ∧ wsame B B' ∧ wm B' (va_up μ a (if (μ a).length = 12 then μ a else μ a ++ [x]))) := by
  obtain ⟨a12, aL, -, -⟩ := hw a ha
  have ca : (nI a).toNatClampNeg = a := nI_clamp (by omega)
  iterate 3 refine go_s rfl rfl rfl trivial ?_
  refine go_s rfl rfl rfl ?_ ?_
  · exact vp_in_nI ha (by omega)
  iterate 2 refine go_s rfl rfl rfl trivial ?_
  simp only [ca, aL]
  refine go_if (fun hc => ?_) (fun hc => ?_)
  · have hl : (μ a).length < 12 := by
      rcases Nat.lt_or_ge (μ a).length 12 with h | h
      · exact h
      · exact absurd (by rw [show (μ a).length = 12 by omega]; rfl) hc
    have e : (12 : Int32) * nI a + nI (μ a).length = nI (12 * a + (μ a).length) := by
      rw [show (12 : Int32) = nI 12 from rfl, pk_mul, nI_add]
    have ce : (nI (12 * a + (μ a).length)).toNatClampNeg = 12 * a + (μ a).length := nI_clamp (by omega)
    iterate 8 refine go_s rfl rfl rfl trivial ?_
    refine go_s rfl rfl rfl ?_ ?_
    · exact vp_in_nI ha (by omega)
    simp only [ca, aL]
    iterate 3 refine go_s rfl rfl rfl trivial ?_
    rw [e]
    refine go_s rfl rfl rfl ?_ ?_
    · exact vp_in_nI (by omega) (by omega)
    simp only [ce, nar_byte hx]
    iterate 4 refine go_s rfl rfl rfl trivial ?_
    refine go_s rfl rfl rfl ?_ ?_
    · exact vp_in_nI ha (by omega)
    iterate 2 refine go_s rfl rfl rfl trivial ?_
    refine go_s rfl rfl rfl ?_ ?_
    · exact vp_in_nI ha (by omega)
    simp only [ca, aL]
    refine go_r rfl rfl rfl trivial ⟨rfl, va_up (va_up B 0 (upd (B 0) (12 * a + (μ a).length) (nI x))) 1 (upd (B 1) a (nI (μ a).length + 1)), rfl, fun i hi => ?_, ?_⟩
    · rw [va_up_ne _ _ (by omega), va_up_ne _ _ (by omega)]
    · rw [if_neg (by omega)]
      exact wm_add hw ha hl hx rfl (by rw [va_up_self, nI_1])
  · refine go_r rfl rfl rfl trivial ⟨rfl, B, rfl, wsame.rf B, ?_⟩
    have e12 : (μ a).length = 12 := nI_inj (by omega) (by omega) (Classical.not_not.mp hc)
    rw [if_pos e12]
    have : va_up μ a (μ a) = μ := by
      funext j
      by_cases hj : j = a
      · subst hj; rw [va_up_self]
      · rw [va_up_ne _ _ hj]
    rw [this]
    exact hw
theorem l_copy {a b : Nat} (ha : a < 6034) (hb : b < 6034) (hab : a ≠ b) : ∀ (d k : Nat) (B : Nat → Nat → Int32) (μ : Nat → List Nat), wm B μ → (μ a).length = k + d → μ b = (μ a).take k →
    Go m_Mo_copy 9 [some (.ref 48), some (.int (nI a)), some (.int (nI b)), some (.int (nI k))] [] (hM T I B S D) (fun r h' => r = none ∧ ∃ B', h' = hM T I B' S D ∧ wsame B B' ∧ wm B' (va_up μ b (μ a))) := by
  have ca : (nI a).toNatClampNeg = a := nI_clamp (by omega)
  intro d
  induction d with
  | zero =>
    intro k B μ hw hk hb2
    obtain ⟨a12, aL, -, -⟩ := hw a ha
    iterate 4 refine go_s rfl rfl rfl trivial ?_
    refine go_s rfl rfl rfl ?_ ?_
    · exact vp_in_nI ha (by omega)
    iterate 1 refine go_s rfl rfl rfl trivial ?_
    simp only [ca, aL]
    refine go_if (fun hc => ?_) (fun hc => ?_)
    · refine go_r rfl rfl rfl trivial ⟨rfl, B, rfl, wsame.rf B, ?_⟩
      have : va_up μ b (μ a) = μ := by
        funext j
        by_cases hj : j = b
        · subst hj; rw [va_up_self, hb2, List.take_of_length_le (by omega)]
        · rw [va_up_ne _ _ hj]
      rw [this]
      exact hw
    · exact absurd (nI_le (by omega) (by omega)) hc
  | succ d ih =>
    intro k B μ hw hk hb2
    obtain ⟨a12, aL, -, -⟩ := hw a ha
    iterate 4 refine go_s rfl rfl rfl trivial ?_
    refine go_s rfl rfl rfl ?_ ?_
    · exact vp_in_nI ha (by omega)
    iterate 1 refine go_s rfl rfl rfl trivial ?_
    simp only [ca, aL]
    refine go_if (fun hc => ?_) (fun hc => ?_)
    · exact absurd hc (nI_ge (by omega) (by omega))
    · iterate 5 refine go_s rfl rfl rfl trivial ?_
      refine go_c rfl rfl rfl (c_byteOf_w hw ha (k := k) (by omega)) ?_
      rintro r h3 ⟨rfl, rfl⟩
      have la := hw.at_lt (k := k) ha
      refine go_c rfl rfl rfl (c_add hw hb la) ?_
      rintro r h3 ⟨rfl, B1, rfl, hs1, hw1⟩
      iterate 2 refine go_s rfl rfl rfl trivial ?_
      rw [nI_1]
      have hl : (μ b).length = k := by rw [hb2, List.length_take]; omega
      rw [if_neg (by omega)] at hw1
      have e1 : va_up μ b (μ b ++ [(μ a).getD k 0]) a = μ a := va_up_ne _ _ hab
      refine (ih (k + 1) B1 _ hw1 (by rw [e1]; omega) ?_).mono fun r h' h => ?_
      · rw [e1, va_up_self, hb2]
        rw [List.getD_eq_getElem?_getD, List.take_succ]
        rw [List.getElem?_eq_getElem (by omega : k < (μ a).length)]
        rfl
      · obtain ⟨h1, B2, h2, h3, h4⟩ := h
        refine ⟨h1, B2, h2, hs1.tr h3, ?_⟩
        rw [e1] at h4
        have : va_up (va_up μ b (μ b ++ [(μ a).getD k 0])) b (μ a) = va_up μ b (μ a) := bx_uu _ _ _ _
        rw [this] at h4
        exact h4
/-- a word comes to another place -/
theorem c_copy (hw : wm B μ) {a b : Nat} (ha : a < 6034) (hb : b < 6034) (hab : a ≠ b) : Do m_Mo_copy [.ref 48, .int (nI a), .int (nI b)] (hM T I B S D) (fun r h' => r = none ∧ ∃ B', h' = hM T I B' S D ∧ wsame B B' ∧ wm B' (va_up μ b (μ a))) := by
  have cb : (nI b).toNatClampNeg = b := nI_clamp (by omega)
  iterate 4 refine go_s rfl rfl rfl trivial ?_
  refine go_s rfl rfl rfl ?_ ?_
  · exact vp_in_nI hb (by omega)
  simp only [cb]
  iterate 2 refine go_s rfl rfl rfl trivial ?_
  have hw0 : wm (va_up B 1 (upd (B 1) b 0)) (va_up μ b []) := wm_len0 hw hb rfl rfl
  have e1 : va_up μ b [] a = μ a := va_up_ne _ _ hab
  refine Go.mono (l_copy (T := T) (D := D) (I := I) (S := S) ha hb hab (μ a).length 0 (va_up B 1 (upd (B 1) b 0)) (va_up μ b []) hw0 (by rw [e1]; omega) (by rw [va_up_self]; rfl)) fun r h' h => ?_
  obtain ⟨h1, B2, h2, h3, h4⟩ := h
  refine ⟨h1, B2, h2, fun i hi => by rw [h3 i hi, va_up_ne _ _ (by omega)], ?_⟩
  rw [e1, bx_uu] at h4
  exact h4
end MCOPY
