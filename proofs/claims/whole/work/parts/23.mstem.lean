/-! ===== the reference's words: beginnings, endings, stop words, stems ===== -/
/-- v is the beginning of u; e is an ending of w with three bytes before it -/
def begP (u v : List Nat) : Prop := u.take v.length = v
def endP (w e : List Nat) : Prop := e.length + 3 ≤ w.length ∧ w.drop (w.length - e.length) = e
/-- u, from place o on, is v -/
def subP (u v : List Nat) (o k : Nat) : Prop := ∀ j, j < k → u.getD (o + j) 0 = v.getD j 0
theorem subP_drop {u v : List Nat} {o : Nat} (h : subP u v o v.length) (hl : o + v.length ≤ u.length) : (u.drop o).take v.length = v := by
  apply List.ext_getElem?
  intro j
  by_cases hj : j < v.length
  · have h1 := h j hj
    rw [List.getD_eq_getElem?_getD, List.getD_eq_getElem?_getD, List.getElem?_eq_getElem (by omega : o + j < u.length), List.getElem?_eq_getElem hj] at h1
    rw [List.getElem?_take_of_lt hj, List.getElem?_drop, List.getElem?_eq_getElem (by omega : o + j < u.length), List.getElem?_eq_getElem hj]
    simpa using h1
  · rw [List.getElem?_eq_none (by rw [List.length_take]; omega), List.getElem?_eq_none (by omega)]
theorem drop_subP {u v : List Nat} {o : Nat} (h : (u.drop o).take v.length = v) (j : Nat) (hj : j < v.length) : u.getD (o + j) 0 = v.getD j 0 := by
  have h1 : v.getD j 0 = ((u.drop o).take v.length).getD j 0 := by rw [h]
  rw [h1, List.getD_eq_getElem?_getD, List.getD_eq_getElem?_getD, List.getElem?_take_of_lt hj, List.getElem?_drop]
section MSTEM
variable {T : Nat → am_C} {D : List am_C} {I : Nat → Int32} {B : Nat → Nat → Int32} {S : Nat → Int64} {μ : Nat → List Nat}
theorem l_begins (hw : wm B μ) {a b : Nat} (ha : a < 6034) (hb : b < 6034) : ∀ (d k : Nat) (f : Int32), (μ b).length = k + d → ((f = 1 ∧ (μ b).length ≤ (μ a).length ∧ subP (μ a) (μ b) 0 k) ∨ (f = 0 ∧ ¬ begP (μ a) (μ b))) →
    Go m_Mo_beginsSo 24 [some (.ref 48), some (.int (nI a)), some (.int (nI b)), some (.int f), some (.int (nI k))] [] (hM T I B S D) (fun r h' => r = some (.int (b01 (begP (μ a) (μ b)))) ∧ h' = hM T I B S D) := by
  obtain ⟨a12, aL, -, -⟩ := hw a ha
  obtain ⟨b12, bL, -, -⟩ := hw b hb
  have cb : (nI b).toNatClampNeg = b := nI_clamp (by omega)
  intro d
  induction d with
  | zero =>
    intro k f hk hf
    iterate 4 refine go_s rfl rfl rfl trivial ?_
    refine go_s rfl rfl rfl ?_ ?_
    · exact vp_in_nI hb (by omega)
    iterate 1 refine go_s rfl rfl rfl trivial ?_
    simp only [cb, bL]
    refine go_if (fun hc => ?_) (fun hc => ?_)
    · iterate 1 refine go_s rfl rfl rfl trivial ?_
      have e : f = b01 (begP (μ a) (μ b)) := by
        rcases hf with ⟨rfl, h1, h2⟩ | ⟨rfl, h1⟩
        · rw [b01_t]
          have := subP_drop (o := 0) (u := μ a) (v := μ b) (fun j hj => h2 j (by omega)) (by omega)
          rwa [List.drop_zero] at this
        · rw [b01_f h1]
      refine go_r rfl rfl rfl ?_ ⟨by rw [e], rfl⟩
      rcases hf with ⟨h0, -⟩ | ⟨h0, -⟩
      · exact Or.inr h0
      · exact Or.inl h0
    · exact absurd (nI_le (by omega) (by omega)) hc
  | succ d ih =>
    intro k f hk hf
    iterate 4 refine go_s rfl rfl rfl trivial ?_
    refine go_s rfl rfl rfl ?_ ?_
    · exact vp_in_nI hb (by omega)
    iterate 1 refine go_s rfl rfl rfl trivial ?_
    simp only [cb, bL]
    refine go_if (fun hc => ?_) (fun hc => ?_)
    · exact absurd hc (nI_ge (by omega) (by omega))
    · iterate 2 refine go_s rfl rfl rfl trivial ?_
      refine go_if (fun hc => ?_) (fun hc => ?_)
      · iterate 1 refine go_s rfl rfl rfl trivial ?_
        rcases hf with ⟨h0, -⟩ | ⟨h0, h1⟩
        · rw [h0] at hc; exact absurd hc (by decide)
        · exact go_r rfl rfl rfl (Or.inl h0) ⟨by rw [h0, b01_f h1], rfl⟩
      · rcases hf with ⟨rfl, h1, h2⟩ | ⟨h0, h1⟩
        · iterate 3 refine go_s rfl rfl rfl trivial ?_
          refine go_c rfl rfl rfl (c_byteOf_w hw ha (k := k) (by omega)) ?_
          rintro r h3 ⟨rfl, rfl⟩
          iterate 3 refine go_s rfl rfl rfl trivial ?_
          refine go_c rfl rfl rfl (c_byteOf_w hw hb (k := k) (by omega)) ?_
          rintro r h3 ⟨rfl, rfl⟩
          iterate 1 refine go_s rfl rfl rfl trivial ?_
          have la := hw.at_lt (k := k) ha
          have lb := hw.at_lt (k := k) hb
          refine go_if (fun hc => ?_) (fun hc => ?_)
          · iterate 4 refine go_s rfl rfl rfl trivial ?_
            rw [nI_1]
            refine ih (k + 1) 0 (by omega) (Or.inr ⟨rfl, fun q => hc ?_⟩)
            have := drop_subP (u := μ a) (v := μ b) (o := 0) (by rw [List.drop_zero]; exact q) k (by omega)
            rw [Nat.zero_add] at this
            rw [this]
          · iterate 5 refine go_s rfl rfl rfl trivial ?_
            rw [nI_1]
            refine ih (k + 1) 1 (by omega) (Or.inl ⟨rfl, h1, fun j hj => ?_⟩)
            rcases Nat.lt_or_ge j k with hjk | hjk
            · exact h2 j hjk
            · rw [show j = k by omega, Nat.zero_add]
              exact nI_inj (by omega) (by omega) (Classical.not_not.mp hc)
        · exact absurd h0 hc
theorem c_beginsSo (hw : wm B μ) {a b : Nat} (ha : a < 6034) (hb : b < 6034) : Do m_Mo_beginsSo [.ref 48, .int (nI a), .int (nI b)] (hM T I B S D) (fun r h' => r = some (.int (b01 (begP (μ a) (μ b)))) ∧ h' = hM T I B S D) := by
  obtain ⟨a12, aL, -, -⟩ := hw a ha
  obtain ⟨b12, bL, -, -⟩ := hw b hb
  have ca : (nI a).toNatClampNeg = a := nI_clamp (by omega)
  have cb : (nI b).toNatClampNeg = b := nI_clamp (by omega)
  iterate 3 refine go_s rfl rfl rfl trivial ?_
  refine go_s rfl rfl rfl ?_ ?_
  · exact vp_in_nI ha (by omega)
  iterate 3 refine go_s rfl rfl rfl trivial ?_
  refine go_s rfl rfl rfl ?_ ?_
  · exact vp_in_nI hb (by omega)
  iterate 1 refine go_s rfl rfl rfl trivial ?_
  simp only [ca, cb, aL, bL]
  have hiff : nI (μ a).length < nI (μ b).length ↔ (μ a).length < (μ b).length := nI_ltI (by omega) (by omega)
  refine go_if (fun hc => ?_) (fun hc => ?_)
  · iterate 4 refine go_s rfl rfl rfl trivial ?_
    refine l_begins hw ha hb (μ b).length 0 0 (by omega) (Or.inr ⟨rfl, fun q => ?_⟩)
    have := congrArg List.length q
    rw [List.length_take] at this
    have := hiff.mp hc
    omega
  · iterate 5 refine go_s rfl rfl rfl trivial ?_
    have : ¬ (μ a).length < (μ b).length := fun q => hc (hiff.mpr q)
    exact l_begins hw ha hb (μ b).length 0 1 (by omega) (Or.inl ⟨rfl, by omega, fun j hj => by omega⟩)
theorem l_ends (hw : wm B μ) {a b o : Nat} (ha : a < 6034) (hb : b < 6034) (ho : (μ a).length = o + (μ b).length) : ∀ (d k : Nat) (f : Int32), (μ b).length = k + d → ((f = 1 ∧ 3 ≤ o ∧ subP (μ a) (μ b) o k) ∨ (f = 0 ∧ ¬ endP (μ a) (μ b))) →
    Go m_Mo_ends 29 [some (.ref 48), some (.int (nI a)), some (.int (nI b)), some (.int (nI o)), some (.int f), some (.int (nI k))] [] (hM T I B S D) (fun r h' => r = some (.int (b01 (endP (μ a) (μ b)))) ∧ h' = hM T I B S D) := by
  obtain ⟨a12, aL, -, -⟩ := hw a ha
  obtain ⟨b12, bL, -, -⟩ := hw b hb
  have cb : (nI b).toNatClampNeg = b := nI_clamp (by omega)
  have eo : (μ a).length - (μ b).length = o := by omega
  intro d
  induction d with
  | zero =>
    intro k f hk hf
    iterate 4 refine go_s rfl rfl rfl trivial ?_
    refine go_s rfl rfl rfl ?_ ?_
    · exact vp_in_nI hb (by omega)
    iterate 1 refine go_s rfl rfl rfl trivial ?_
    simp only [cb, bL]
    refine go_if (fun hc => ?_) (fun hc => ?_)
    · iterate 1 refine go_s rfl rfl rfl trivial ?_
      have e : f = b01 (endP (μ a) (μ b)) := by
        rcases hf with ⟨rfl, h1, h2⟩ | ⟨rfl, h1⟩
        · rw [b01_t]
          refine ⟨by omega, ?_⟩
          have := subP_drop (o := o) (u := μ a) (v := μ b) (fun j hj => h2 j (by omega)) (by omega)
          rw [eo]
          rwa [List.take_of_length_le (by rw [List.length_drop]; omega)] at this
        · rw [b01_f h1]
      refine go_r rfl rfl rfl ?_ ⟨by rw [e], rfl⟩
      rcases hf with ⟨h0, -⟩ | ⟨h0, -⟩
      · exact Or.inr h0
      · exact Or.inl h0
    · exact absurd (nI_le (by omega) (by omega)) hc
  | succ d ih =>
    intro k f hk hf
    iterate 4 refine go_s rfl rfl rfl trivial ?_
    refine go_s rfl rfl rfl ?_ ?_
    · exact vp_in_nI hb (by omega)
    iterate 1 refine go_s rfl rfl rfl trivial ?_
    simp only [cb, bL]
    refine go_if (fun hc => ?_) (fun hc => ?_)
    · exact absurd hc (nI_ge (by omega) (by omega))
    · iterate 2 refine go_s rfl rfl rfl trivial ?_
      refine go_if (fun hc => ?_) (fun hc => ?_)
      · iterate 1 refine go_s rfl rfl rfl trivial ?_
        rcases hf with ⟨h0, -⟩ | ⟨h0, h1⟩
        · rw [h0] at hc; exact absurd hc (by decide)
        · exact go_r rfl rfl rfl (Or.inl h0) ⟨by rw [h0, b01_f h1], rfl⟩
      · rcases hf with ⟨rfl, h1, h2⟩ | ⟨h0, h1⟩
        · iterate 5 refine go_s rfl rfl rfl trivial ?_
          rw [nI_add]
          refine go_c rfl rfl rfl (c_byteOf_w hw ha (k := o + k) (by omega)) ?_
          rintro r h3 ⟨rfl, rfl⟩
          iterate 3 refine go_s rfl rfl rfl trivial ?_
          refine go_c rfl rfl rfl (c_byteOf_w hw hb (k := k) (by omega)) ?_
          rintro r h3 ⟨rfl, rfl⟩
          iterate 1 refine go_s rfl rfl rfl trivial ?_
          have la := hw.at_lt (k := o + k) ha
          have lb := hw.at_lt (k := k) hb
          refine go_if (fun hc => ?_) (fun hc => ?_)
          · iterate 4 refine go_s rfl rfl rfl trivial ?_
            rw [nI_1]
            refine ih (k + 1) 0 (by omega) (Or.inr ⟨rfl, fun q => hc ?_⟩)
            have := drop_subP (u := μ a) (v := μ b) (o := o) (by rw [← eo, q.2, List.take_length]) k (by omega)
            rw [this]
          · iterate 5 refine go_s rfl rfl rfl trivial ?_
            rw [nI_1]
            refine ih (k + 1) 1 (by omega) (Or.inl ⟨rfl, h1, fun j hj => ?_⟩)
            rcases Nat.lt_or_ge j k with hjk | hjk
            · exact h2 j hjk
            · rw [show j = k by omega]
              exact nI_inj (by omega) (by omega) (Classical.not_not.mp hc)
        · exact absurd h0 hc
theorem l_ends0 (hw : wm B μ) {a b : Nat} (hb : b < 6034) (x : Int32) : Go m_Mo_ends 29 [some (.ref 48), some (.int (nI a)), some (.int (nI b)), some (.int x), some (.int 0), some (.int 0)] [] (hM T I B S D) (fun r h' => r = some (.int 0) ∧ h' = hM T I B S D) := by
  obtain ⟨b12, bL, -, -⟩ := hw b hb
  iterate 4 refine go_s rfl rfl rfl trivial ?_
  refine go_s rfl rfl rfl ?_ ?_
  · exact vp_in_nI hb (by omega)
  iterate 1 refine go_s rfl rfl rfl trivial ?_
  refine go_if (fun hc => ?_) (fun hc => ?_)
  · iterate 1 refine go_s rfl rfl rfl trivial ?_
    exact go_r rfl rfl rfl (Or.inl rfl) ⟨rfl, rfl⟩
  · iterate 2 refine go_s rfl rfl rfl trivial ?_
    refine go_if (fun hc => ?_) (fun hc => ?_)
    · iterate 1 refine go_s rfl rfl rfl trivial ?_
      exact go_r rfl rfl rfl (Or.inl rfl) ⟨rfl, rfl⟩
    · exact absurd rfl hc
theorem c_ends (hw : wm B μ) {a b : Nat} (ha : a < 6034) (hb : b < 6034) : Do m_Mo_ends [.ref 48, .int (nI a), .int (nI b)] (hM T I B S D) (fun r h' => r = some (.int (b01 (endP (μ a) (μ b)))) ∧ h' = hM T I B S D) := by
  obtain ⟨a12, aL, -, -⟩ := hw a ha
  obtain ⟨b12, bL, -, -⟩ := hw b hb
  have ca : (nI a).toNatClampNeg = a := nI_clamp (by omega)
  have cb : (nI b).toNatClampNeg = b := nI_clamp (by omega)
  iterate 3 refine go_s rfl rfl rfl trivial ?_
  refine go_s rfl rfl rfl ?_ ?_
  · exact vp_in_nI ha (by omega)
  iterate 3 refine go_s rfl rfl rfl trivial ?_
  refine go_s rfl rfl rfl ?_ ?_
  · exact vp_in_nI hb (by omega)
  simp only [ca, cb, aL, bL]
  iterate 5 refine go_s rfl rfl rfl trivial ?_
  have e3 : (3 : Int32) = nI 3 := rfl
  rcases Nat.lt_or_ge (μ a).length (μ b).length with hl | hl
  · have hneg : nI (μ a).length - nI (μ b).length < 3 := by
      have h0 := pk_sneg (a := (μ a).length) (b := (μ b).length) (by omega) hl
      rw [Int32.lt_iff_toInt_lt] at h0 ⊢
      exact Int.lt_trans h0 (by decide)
    refine go_if (fun hc => ?_) (fun hc => ?_)
    · iterate 4 refine go_s rfl rfl rfl trivial ?_
      refine (l_ends0 hw hb _).mono fun r h' h => ?_
      rw [b01_f (fun q => by have := q.1; omega)]
      exact h
    · exact absurd hneg hc
  · obtain ⟨o, ho⟩ : ∃ o, (μ a).length = o + (μ b).length := ⟨(μ a).length - (μ b).length, by omega⟩
    have e1 : nI (μ a).length - nI (μ b).length = nI o := by rw [pk_sub hl, show (μ a).length - (μ b).length = o by omega]
    rw [e1]
    have hiff : nI o < 3 ↔ o < 3 := by rw [e3]; exact nI_ltI (by omega) (by omega)
    refine go_if (fun hc => ?_) (fun hc => ?_)
    · iterate 4 refine go_s rfl rfl rfl trivial ?_
      exact l_ends hw ha hb ho (μ b).length 0 0 (by omega) (Or.inr ⟨rfl, fun q => by have := q.1; have := hiff.mp hc; omega⟩)
    · iterate 5 refine go_s rfl rfl rfl trivial ?_
      exact l_ends hw ha hb ho (μ b).length 0 1 (by omega) (Or.inl ⟨rfl, by have : ¬ o < 3 := fun q => hc (hiff.mpr q); omega, fun j hj => by omega⟩)
end MSTEM
