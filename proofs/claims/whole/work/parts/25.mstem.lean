/-! ===== the reference: stems ===== -/
section MSTEM3
variable {T : Nat → am_C} {D : List am_C} {I : Nat → Int32} {S : Nat → Int64}
theorem up_id (μ : Nat → List Nat) (a : Nat) : va_up μ a (μ a) = μ := by
  funext j
  by_cases hj : j = a
  · subst hj; rw [va_up_self]
  · rw [va_up_ne _ _ hj]
theorem l_st70 {l a to en : Nat} {r : Int32} (ha : a < 6034) (ht : to < 6034) (hat : a ≠ to) (he : en + 1 < 6034) (hne : en + 1 ≠ to) (hne2 : en ≠ to) : ∀ (d k : Nat) (B : Nat → Nat → Int32) (μ : Nat → List Nat), wm B μ → (μ en).length ≤ (μ a).length → (μ a).length - (μ en).length = k + d → μ to = (μ a).take k →
    Go m_Mo_stemTo 70 [some (.ref 48), some (.int (nI l)), some (.int (nI a)), some (.int (nI to)), some (.int r), some (.int (nI en)), some (.int (nI k))] [] (hM T I B S D) (fun r h' => r = none ∧ ∃ B', h' = hM T I B' S D ∧ wsame B B' ∧ wm B' (va_up μ to (((μ a).take ((μ a).length - (μ en).length) ++ μ (en + 1)).take 12))) := by
  have ca : (nI a).toNatClampNeg = a := nI_clamp (by omega)
  have ce : (nI en).toNatClampNeg = en := nI_clamp (by omega)
  intro d
  induction d with
  | zero =>
    intro k B μ hw hle hk htk
    obtain ⟨a12, aL, -, -⟩ := hw a ha
    obtain ⟨e12, eL, -, -⟩ := hw en (by omega)
    iterate 4 refine go_s rfl rfl rfl trivial ?_
    refine go_s rfl rfl rfl ?_ ?_
    · exact vp_in_nI ha (by omega)
    iterate 3 refine go_s rfl rfl rfl trivial ?_
    refine go_s rfl rfl rfl ?_ ?_
    · exact vp_in_nI (by omega) (by omega)
    simp only [ca, ce, aL, eL]
    iterate 1 refine go_s rfl rfl rfl trivial ?_
    rw [pk_sub hle]
    iterate 1 refine go_s rfl rfl rfl trivial ?_
    refine go_if (fun hc => ?_) (fun hc => ?_)
    · iterate 2 refine go_s rfl rfl rfl trivial ?_
      refine (l_st110 ht he hne (μ (en + 1)).length 0 B μ hw (by omega)).mono fun rr h' h => ?_
      obtain ⟨h1, B2, h2, h3, h4⟩ := h
      refine ⟨h1, B2, h2, h3, ?_⟩
      rw [htk, List.drop_zero] at h4
      rw [show (μ a).length - (μ en).length = k by omega]
      exact h4
    · exact absurd (nI_le (by omega) (by omega)) hc
  | succ d ih =>
    intro k B μ hw hle hk htk
    obtain ⟨a12, aL, -, -⟩ := hw a ha
    obtain ⟨e12, eL, -, -⟩ := hw en (by omega)
    iterate 4 refine go_s rfl rfl rfl trivial ?_
    refine go_s rfl rfl rfl ?_ ?_
    · exact vp_in_nI ha (by omega)
    iterate 3 refine go_s rfl rfl rfl trivial ?_
    refine go_s rfl rfl rfl ?_ ?_
    · exact vp_in_nI (by omega) (by omega)
    simp only [ca, ce, aL, eL]
    iterate 1 refine go_s rfl rfl rfl trivial ?_
    rw [pk_sub hle]
    iterate 1 refine go_s rfl rfl rfl trivial ?_
    refine go_if (fun hc => ?_) (fun hc => ?_)
    · exact absurd hc (nI_ge (by omega) (by omega))
    · iterate 5 refine go_s rfl rfl rfl trivial ?_
      refine go_c rfl rfl rfl (c_byteOf_w hw ha (k := k) (by omega)) ?_
      rintro rr h3 ⟨rfl, rfl⟩
      have la := hw.at_lt (k := k) ha
      refine go_c rfl rfl rfl (c_add hw ht la) ?_
      rintro rr h3 ⟨rfl, B1, rfl, hs1, hw1⟩
      iterate 2 refine go_s rfl rfl rfl trivial ?_
      rw [nI_1]
      have hl : (μ to).length = k := by rw [htk, List.length_take]; omega
      rw [if_neg (by omega)] at hw1
      have e1 : ∀ w, va_up μ to w a = μ a := fun w => va_up_ne _ _ hat
      have e2 : ∀ w, va_up μ to w en = μ en := fun w => va_up_ne _ _ hne2
      have e3 : ∀ w, va_up μ to w (en + 1) = μ (en + 1) := fun w => va_up_ne _ _ hne
      refine (ih (k + 1) B1 _ hw1 (by rw [e1, e2]; exact hle) (by rw [e1, e2]; omega) ?_).mono fun rr h' h => ?_
      · rw [e1, va_up_self, htk, List.getD_eq_getElem?_getD, List.take_succ, List.getElem?_eq_getElem (by omega : k < (μ a).length)]
        rfl
      · obtain ⟨h1, B2, h2, h3, h4⟩ := h
        refine ⟨h1, B2, h2, hs1.tr h3, ?_⟩
        rw [e1, e2, e3, bx_uu] at h4
        exact h4
theorem l_st3 {l a to : Nat} (hl : l < 3) (ha : a < 6034) (ht : to < 6034) (hat : a ≠ to) (hto : to < 3920 ∨ 3968 ≤ to) : ∀ (d r : Nat) (X5 X6 : Option Value) (B : Nat → Nat → Int32) (μ : Nat → List Nat), wm B μ → B 9 l = nI (r + d) → r + d ≤ 8 →
    Go m_Mo_stemTo 3 [some (.ref 48), some (.int (nI l)), some (.int (nI a)), some (.int (nI to)), some (.int (nI r)), X5, X6] [] (hM T I B S D) (fun r' h' => r' = none ∧ ∃ B', h' = hM T I B' S D ∧ wsame B B' ∧ wm B' (va_up μ to (stemF (rl μ l r d) (μ a)))) := by
  have cl : (nI l).toNatClampNeg = l := nI_clamp (by omega)
  have ct : (nI to).toNatClampNeg = to := nI_clamp (by omega)
  have ca : (nI a).toNatClampNeg = a := nI_clamp (by omega)
  intro d
  induction d with
  | zero =>
    intro r X5 X6 B μ hw hr hr8
    iterate 4 refine go_s rfl rfl rfl trivial ?_
    refine go_s rfl rfl rfl ?_ ?_
    · exact vp_in_nI (by omega) (by omega)
    simp only [cl, hr]
    iterate 1 refine go_s rfl rfl rfl trivial ?_
    refine go_if (fun hc => ?_) (fun hc => ?_)
    · iterate 4 refine go_s rfl rfl rfl trivial ?_
      refine go_s rfl rfl rfl ?_ ?_
      · exact vp_in_nI (by omega) (by omega)
      simp only [cl, hr]
      iterate 1 refine go_s rfl rfl rfl trivial ?_
      rw [Nat.add_zero]
      refine go_if (fun hc => ?_) (fun hc => ?_)
      · exact absurd rfl hc
      · iterate 3 refine go_s rfl rfl rfl trivial ?_
        refine go_c rfl rfl rfl (c_copy hw ha ht hat) ?_
        rintro rr h3 ⟨rfl, B1, rfl, hs1, hw1⟩
        exact go_r rfl rfl rfl trivial ⟨rfl, B1, rfl, hs1, hw1⟩
    · exact absurd (nI_le (by omega) (by omega)) hc
  | succ d ih =>
    intro r X5 X6 B μ hw hr hr8
    obtain ⟨a12, aL, -, -⟩ := hw a ha
    iterate 4 refine go_s rfl rfl rfl trivial ?_
    refine go_s rfl rfl rfl ?_ ?_
    · exact vp_in_nI (by omega) (by omega)
    simp only [cl, hr]
    iterate 1 refine go_s rfl rfl rfl trivial ?_
    refine go_if (fun hc => ?_) (fun hc => ?_)
    · exact absurd hc (nI_ge (by omega) (by omega))
    · iterate 4 refine go_s rfl rfl rfl trivial ?_
      refine go_c rfl rfl rfl (c_endingAt _ l r) ?_
      rintro rr h3 ⟨rfl, rfl⟩
      refine go_c rfl rfl rfl (c_ends hw ha (b := 3920 + 16 * l + 2 * r) (by omega)) ?_
      rintro rr h3 ⟨rfl, rfl⟩
      iterate 1 refine go_s rfl rfl rfl trivial ?_
      refine go_if (fun hc => ?_) (fun hc => ?_)
      · have hend : endP (μ a) (μ (3920 + 16 * l + 2 * r)) := Classical.not_not.mp fun q => hc (b01_f q)
        iterate 4 refine go_s rfl rfl rfl trivial ?_
        refine go_s rfl rfl rfl ?_ ?_
        · exact vp_in_nI (by omega) (by omega)
        simp only [cl, hr]
        iterate 1 refine go_s rfl rfl rfl trivial ?_
        refine go_if (fun hc => ?_) (fun hc => ?_)
        · iterate 2 refine go_s rfl rfl rfl trivial ?_
          refine go_c rfl rfl rfl (c_endingAt _ l r) ?_
          rintro rr h3 ⟨rfl, rfl⟩
          iterate 5 refine go_s rfl rfl rfl trivial ?_
          refine go_s rfl rfl rfl ?_ ?_
          · exact vp_in_nI ht (by omega)
          simp only [ct]
          iterate 2 refine go_s rfl rfl rfl trivial ?_
          have hw0 : wm (va_up B 1 (upd (B 1) to 0)) (va_up μ to []) := wm_len0 hw ht rfl rfl
          have e1 : ∀ j, j ≠ to → va_up μ to [] j = μ j := fun j hj => va_up_ne _ _ hj
          have hn1 : 3920 + 16 * l + 2 * r ≠ to := by omega
          have hn2 : 3920 + 16 * l + 2 * r + 1 ≠ to := by omega
          have hend2 := hend.1
          refine Go.mono (l_st70 (T := T) (D := D) (I := I) (S := S) (l := l) (r := nI r) ha ht hat (en := 3920 + 16 * l + 2 * r) (by omega) hn2 hn1 ((μ a).length - (μ (3920 + 16 * l + 2 * r)).length) 0 (va_up B 1 (upd (B 1) to 0)) (va_up μ to []) hw0 (by rw [e1 a hat, e1 _ hn1]; omega) (by rw [e1 a hat, e1 _ hn1]; omega) (by rw [va_up_self]; rfl)) fun rr h' h => ?_
          obtain ⟨h1, B2, h2, h3, h4⟩ := h
          refine ⟨h1, B2, h2, fun i hi => by rw [h3 i hi, va_up_ne _ _ (by omega)], ?_⟩
          rw [e1 a hat, e1 _ hn1, e1 _ hn2, bx_uu] at h4
          have e5 : stemF (rl μ l r (d + 1)) (μ a) = ((μ a).take ((μ a).length - (μ (3920 + 16 * l + 2 * r)).length) ++ μ (3920 + 16 * l + 2 * r + 1)).take 12 := by
            simp only [rl, stemF]
            exact if_pos hend
          rw [e5]
          exact h4
        · exact absurd (nI_inj (by omega) (by omega) (Classical.not_not.mp hc)) (by omega)
      · have hend : ¬ endP (μ a) (μ (3920 + 16 * l + 2 * r)) := b01_eq0.mp (Classical.not_not.mp hc)
        iterate 2 refine go_s rfl rfl rfl trivial ?_
        rw [nI_1]
        refine (ih (r + 1) _ _ B μ hw (by rw [hr]; congr 1; omega) (by omega)).mono fun rr h' h => ?_
        have e5 : stemF (rl μ l r (d + 1)) (μ a) = stemF (rl μ l (r + 1) d) (μ a) := by
          simp only [rl, stemF]
          exact if_neg hend
        rw [e5]
        exact h
/-- the stem of a word comes to another place -/
theorem c_stemTo {B : Nat → Nat → Int32} {μ : Nat → List Nat} {l a to n : Nat} (hw : wm B μ) (hl : l < 3) (ha : a < 6034) (ht : to < 6034) (hat : a ≠ to) (hto : to < 3920 ∨ 3968 ≤ to) (hn : B 9 l = nI n) (hn8 : n ≤ 8) :
    Do m_Mo_stemTo [.ref 48, .int (nI l), .int (nI a), .int (nI to)] (hM T I B S D) (fun r' h' => r' = none ∧ ∃ B', h' = hM T I B' S D ∧ wsame B B' ∧ wm B' (va_up μ to (stemF (rl μ l 0 n) (μ a)))) := by
  iterate 2 refine go_s rfl rfl rfl trivial ?_
  exact l_st3 hl ha ht hat hto n 0 _ _ B μ hw (by rw [hn]; congr 1; omega) (by omega)
end MSTEM3
