/-! ===== the reference's words: μ a is the word at place a, as bytes ===== -/
def wm (B : Nat → Nat → Int32) (μ : Nat → List Nat) : Prop := ∀ a, a < 6034 → (μ a).length ≤ 12 ∧ B 1 a = nI (μ a).length ∧ (∀ k, k < (μ a).length → B 0 (12 * a + k) = nI ((μ a).getD k 0)) ∧ ∀ x ∈ μ a, x < 128
theorem nI_inj {a b : Nat} (ha : a < 2 ^ 31) (hb : b < 2 ^ 31) (h : nI a = nI b) : a = b := (nI_eq ha hb).mp h
theorem wm.at_lt {B : Nat → Nat → Int32} {μ : Nat → List Nat} (hw : wm B μ) {a k : Nat} (ha : a < 6034) : (μ a).getD k 0 < 128 := by
  rw [List.getD_eq_getElem?_getD]
  cases h : (μ a)[k]? with
  | none => simp
  | some x => exact (hw a ha).2.2.2 x (List.mem_of_getElem? h)
/-- true and false as the machine has them -/
noncomputable def b01 (P : Prop) : Int32 := @ite _ P (Classical.propDecidable P) 1 0
theorem b01_t {P : Prop} (h : P) : b01 P = 1 := if_pos h
theorem b01_f {P : Prop} (h : ¬ P) : b01 P = 0 := if_neg h
theorem b01_g (P : Prop) : b01 P = 0 ∨ b01 P = 1 := (Classical.em P).elim (fun h => Or.inr (b01_t h)) (fun h => Or.inl (b01_f h))
theorem b01_eq0 {P : Prop} : b01 P = 0 ↔ ¬ P := ⟨fun e h => by rw [b01_t h] at e; exact absurd e (by decide), b01_f⟩
theorem b01_iff {P P' : Prop} (h : P ↔ P') : b01 P = b01 P' := by rw [propext h]
section MWORDS
variable {T : Nat → am_C} {D : List am_C} {I : Nat → Int32} {B : Nat → Nat → Int32} {S : Nat → Int64} {μ : Nat → List Nat}
theorem c_byteOf (w k : Nat) (hw : 12 * w + k < 72408) : Do m_Mo_byteOf [.ref 48, .int (nI w), .int (nI k)] (am_hp T (am_M I B S) D) (fun r h' => r = some (.int (B 0 (12 * w + k))) ∧ h' = am_hp T (am_M I B S) D) := by
  have e : (12 : Int32) * nI w + nI k = nI (12 * w + k) := by
    rw [show (12 : Int32) = nI 12 from rfl, pk_mul, nI_add]
  iterate 7 refine go_s rfl rfl rfl trivial ?_
  refine go_s rfl rfl rfl ?_ ?_
  · rw [e]; exact vp_in_nI hw (by omega)
  refine go_r rfl rfl rfl trivial ⟨?_, rfl⟩
  rw [e, nI_clamp (by omega)]
/-- a byte of a word -/
theorem c_byteOf_w (hw : wm B μ) {a k : Nat} (ha : a < 6034) (hk : k < (μ a).length) : Do m_Mo_byteOf [.ref 48, .int (nI a), .int (nI k)] (am_hp T (am_M I B S) D) (fun r h' => r = some (.int (nI ((μ a).getD k 0))) ∧ h' = am_hp T (am_M I B S) D) := by
  have h12 := (hw a ha).1
  refine (c_byteOf a k (by omega)).mono fun r h' h => ?_
  rw [(hw a ha).2.2.1 k hk] at h
  exact h
theorem eq_of_getD {u v : List Nat} (hl : u.length = v.length) (h : ∀ j, j < u.length → u.getD j 0 = v.getD j 0) : u = v := by
  apply List.ext_getElem? 
  intro j
  by_cases hj : j < u.length
  · have h1 := h j hj
    rw [List.getD_eq_getElem?_getD, List.getD_eq_getElem?_getD, List.getElem?_eq_getElem hj, List.getElem?_eq_getElem (hl ▸ hj)] at h1
    rw [List.getElem?_eq_getElem hj, List.getElem?_eq_getElem (hl ▸ hj)]
    simpa using h1
  · rw [List.getElem?_eq_none (by omega), List.getElem?_eq_none (by omega)]
theorem l_same (hw : wm B μ) {a b : Nat} (ha : a < 6034) (hb : b < 6034) : ∀ (d k : Nat) (f : Int32), (μ a).length = k + d → ((f = 1 ∧ (μ a).length = (μ b).length ∧ ∀ j, j < k → (μ a).getD j 0 = (μ b).getD j 0) ∨ (f = 0 ∧ μ a ≠ μ b)) →
    Go m_Mo_same 24 [some (.ref 48), some (.int (nI a)), some (.int (nI b)), some (.int f), some (.int (nI k))] [] (am_hp T (am_M I B S) D) (fun r h' => r = some (.int (b01 (μ a = μ b))) ∧ h' = am_hp T (am_M I B S) D) := by
  obtain ⟨a12, aL, -, -⟩ := hw a ha
  obtain ⟨b12, bL, -, -⟩ := hw b hb
  have ca : (nI a).toNatClampNeg = a := nI_clamp (by omega)
  intro d
  induction d with
  | zero =>
    intro k f hk hf
    iterate 4 refine go_s rfl rfl rfl trivial ?_
    refine go_s rfl rfl rfl ?_ ?_
    · exact vp_in_nI ha (by omega)
    iterate 1 refine go_s rfl rfl rfl trivial ?_
    simp only [ca, aL]
    refine go_if (fun hc => ?_) (fun hc => ?_)
    · iterate 1 refine go_s rfl rfl rfl trivial ?_
      have e : f = b01 (μ a = μ b) := by
        rcases hf with ⟨rfl, h1, h2⟩ | ⟨rfl, h1⟩
        · rw [b01_t (eq_of_getD h1 (fun j hj => h2 j (by omega)))]
        · rw [b01_f h1]
      refine go_r rfl rfl rfl ?_ ⟨by rw [e], rfl⟩
      rcases hf with ⟨h0, -⟩ | ⟨h0, -⟩
      · exact Or.inr h0
      · exact Or.inl h0
    · exact absurd (nI_le (by omega) (by omega)) hc
  | succ d ih =>
    intro k f hk hf
    iterate 4 refine go_s rfl rfl rfl trivial ?_
    refine go_s rfl rfl rfl ?_ ?_
    · exact vp_in_nI ha (by omega)
    iterate 1 refine go_s rfl rfl rfl trivial ?_
    simp only [ca, aL]
    refine go_if (fun hc => ?_) (fun hc => ?_)
    · exact absurd hc (nI_ge (by omega) (by omega))
    · iterate 2 refine go_s rfl rfl rfl trivial ?_
      refine go_if (fun hc => ?_) (fun hc => ?_)
      · iterate 1 refine go_s rfl rfl rfl trivial ?_
        rcases hf with ⟨h0, -⟩ | ⟨h0, h1⟩
        · rw [h0] at hc; exact absurd hc (by decide)
        · exact go_r rfl rfl rfl (Or.inl h0) ⟨by rw [h0, b01_f h1], rfl⟩
      · rcases hf with ⟨rfl, h1, h2⟩ | ⟨h0, h1⟩
        · iterate 3 refine go_s rfl rfl rfl trivial ?_
          refine go_c rfl rfl rfl (c_byteOf_w hw ha (k := k) (by omega)) ?_
          rintro r h3 ⟨rfl, rfl⟩
          iterate 3 refine go_s rfl rfl rfl trivial ?_
          refine go_c rfl rfl rfl (c_byteOf_w hw hb (k := k) (by omega)) ?_
          rintro r h3 ⟨rfl, rfl⟩
          iterate 1 refine go_s rfl rfl rfl trivial ?_
          have la := hw.at_lt (k := k) ha
          have lb := hw.at_lt (k := k) hb
          refine go_if (fun hc => ?_) (fun hc => ?_)
          · iterate 4 refine go_s rfl rfl rfl trivial ?_
            rw [nI_1]
            refine ih (k + 1) 0 (by omega) (Or.inr ⟨rfl, fun q => hc ?_⟩)
            rw [q]
          · iterate 5 refine go_s rfl rfl rfl trivial ?_
            rw [nI_1]
            refine ih (k + 1) 1 (by omega) (Or.inl ⟨rfl, h1, fun j hj => ?_⟩)
            rcases Nat.lt_or_ge j k with hjk | hjk
            · exact h2 j hjk
            · rw [show j = k by omega]
              exact nI_inj (by omega) (by omega) (Classical.not_not.mp hc)
        · exact absurd h0 hc
theorem c_same (hw : wm B μ) {a b : Nat} (ha : a < 6034) (hb : b < 6034) : Do m_Mo_same [.ref 48, .int (nI a), .int (nI b)] (am_hp T (am_M I B S) D) (fun r h' => r = some (.int (b01 (μ a = μ b))) ∧ h' = am_hp T (am_M I B S) D) := by
  obtain ⟨a12, aL, -, -⟩ := hw a ha
  obtain ⟨b12, bL, -, -⟩ := hw b hb
  have ca : (nI a).toNatClampNeg = a := nI_clamp (by omega)
  have cb : (nI b).toNatClampNeg = b := nI_clamp (by omega)
  iterate 3 refine go_s rfl rfl rfl trivial ?_
  refine go_s rfl rfl rfl ?_ ?_
  · exact vp_in_nI ha (by omega)
  iterate 3 refine go_s rfl rfl rfl trivial ?_
  refine go_s rfl rfl rfl ?_ ?_
  · exact vp_in_nI hb (by omega)
  iterate 1 refine go_s rfl rfl rfl trivial ?_
  simp only [ca, cb, aL, bL]
  refine go_if (fun hc => ?_) (fun hc => ?_)
  · iterate 4 refine go_s rfl rfl rfl trivial ?_
    refine l_same hw ha hb (μ a).length 0 0 (by omega) (Or.inr ⟨rfl, fun q => hc (by rw [q])⟩)
  · iterate 5 refine go_s rfl rfl rfl trivial ?_
    refine l_same hw ha hb (μ a).length 0 1 (by omega) (Or.inl ⟨rfl, nI_inj (by omega) (by omega) (Classical.not_not.mp hc), fun j hj => by omega⟩)
end MWORDS
