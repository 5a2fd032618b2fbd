/-! ===== the reference: letters, what is shown, answers, texts ===== -/
def dgI (x : Int32) : Int32 := if 48 ≤ x ∧ x ≤ 57 then x else 0
def l17I (x : Int32) : Int32 := if 97 ≤ x ∧ x ≤ 122 then x else dgI x
def lteI (x : Int32) : Int32 := if 65 ≤ x ∧ x ≤ 90 then x + 32 else l17I x
/-- a letter (a small one) or digit; 0 -/
def ltr (b : Nat) : Nat := if 65 ≤ b ∧ b ≤ 90 then b + 32 else if (97 ≤ b ∧ b ≤ 122) ∨ (48 ≤ b ∧ b ≤ 57) then b else 0
/-- a byte as the reference's tape has it -/
def sbI (b : Nat) : Int32 := (nI b).toInt8.toInt32
theorem lteI_sb {b : Nat} (hb : b < 256) : lteI (sbI b) = nI (ltr b) := by
  have h : ∀ b : Nat, b < 256 → lteI (sbI b) = nI (ltr b) := by decide +kernel
  exact h b hb
theorem ltr_lt {b : Nat} (hb : b < 256) : ltr b < 128 := by
  simp only [ltr]
  split
  · omega
  · split <;> omega
theorem l_let29 (h : List am_C) (x : Int32) : Go m_Mo_letter 29 [some (.int x)] [] h (fun r h' => r = some (.int (dgI x)) ∧ h' = h) := by
  iterate 3 refine go_s rfl rfl rfl trivial ?_
  refine go_if (fun h1 => ?_) (fun h1 => ?_)
  · iterate 1 refine go_s rfl rfl rfl trivial ?_
    refine go_r rfl rfl rfl trivial ⟨?_, rfl⟩
    rw [dgI, if_neg (fun q => absurd h1 (Int32.not_lt.mpr q.1))]
  · iterate 3 refine go_s rfl rfl rfl trivial ?_
    refine go_if (fun h2 => ?_) (fun h2 => ?_)
    · iterate 1 refine go_s rfl rfl rfl trivial ?_
      refine go_r rfl rfl rfl trivial ⟨?_, rfl⟩
      rw [dgI, if_neg (fun q => absurd h2 (Int32.not_lt.mpr q.2))]
    · iterate 2 refine go_s rfl rfl rfl trivial ?_
      refine go_r rfl rfl rfl trivial ⟨?_, rfl⟩
      rw [dgI, if_pos ⟨Int32.not_lt.mp h1, Int32.not_lt.mp h2⟩]
theorem l_let17 (h : List am_C) (x : Int32) : Go m_Mo_letter 17 [some (.int x)] [] h (fun r h' => r = some (.int (l17I x)) ∧ h' = h) := by
  iterate 3 refine go_s rfl rfl rfl trivial ?_
  refine go_if (fun h1 => ?_) (fun h1 => ?_)
  · rw [l17I, if_neg (fun q => absurd h1 (Int32.not_lt.mpr q.1))]
    exact l_let29 h x
  · iterate 3 refine go_s rfl rfl rfl trivial ?_
    refine go_if (fun h2 => ?_) (fun h2 => ?_)
    · iterate 2 refine go_s rfl rfl rfl trivial ?_
      refine go_r rfl rfl rfl trivial ⟨?_, rfl⟩
      rw [l17I, if_pos ⟨Int32.not_lt.mp h1, h2⟩]
    · rw [l17I, if_neg (fun q => h2 q.2)]
      exact l_let29 h x
theorem c_letter (h : List am_C) (x : Int32) : Do m_Mo_letter [.int x] h (fun r h' => r = some (.int (lteI x)) ∧ h' = h) := by
  iterate 3 refine go_s rfl rfl rfl trivial ?_
  refine go_if (fun h1 => ?_) (fun h1 => ?_)
  · rw [lteI, if_neg (fun q => absurd h1 (Int32.not_lt.mpr q.1))]
    exact l_let17 h x
  · iterate 3 refine go_s rfl rfl rfl trivial ?_
    refine go_if (fun h2 => ?_) (fun h2 => ?_)
    · rw [lteI, if_neg (fun q => absurd h2 (Int32.not_lt.mpr q.2))]
      exact l_let17 h x
    · iterate 3 refine go_s rfl rfl rfl trivial ?_
      refine go_r rfl rfl rfl trivial ⟨?_, rfl⟩
      rw [lteI, if_pos ⟨Int32.not_lt.mp h1, Int32.not_lt.mp h2⟩]
/-- what is shown -/
def mshown (I : Nat → Int32) (B : Nat → Nat → Int32) (w : List Nat) : Prop := I 11 = nI w.length ∧ w.length ≤ 12 ∧ ∀ k, k < w.length → B 18 k = nI (w.getD k 0)
section MSHOW
variable {T : Nat → am_C} {D : List am_C} {I : Nat → Int32} {B : Nat → Nat → Int32} {S : Nat → Int64} {μ : Nat → List Nat}
theorem wm.keep2 {B B' : Nat → Nat → Int32} {μ : Nat → List Nat} (hw : wm B μ) (h0 : B' 0 = B 0) (h1 : B' 1 = B 1) : wm B' μ := fun a ha => by rw [h0, h1]; exact hw a ha
theorem l_show {a : Nat} (ha : a < 6034) : ∀ (d k : Nat) (B : Nat → Nat → Int32), wm B μ → (μ a).length = k + d → I 11 = nI (μ a).length → (∀ j, j < k → B 18 j = nI ((μ a).getD j 0)) →
    Go m_Mo_show 12 [some (.ref 48), some (.int (nI a)), some (.int (nI k))] [] (hM T I B S D) (fun r h' => r = some (.int (nI (μ a).length)) ∧ ∃ B', h' = hM T I B' S D ∧ (∀ i, i ≠ 18 → B' i = B i) ∧ mshown I B' (μ a)) := by
  intro d
  induction d with
  | zero =>
    intro k B hw hk hI hj
    obtain ⟨a12, aL, -, -⟩ := hw a ha
    iterate 3 refine go_s rfl rfl rfl trivial ?_
    rw [hI]
    iterate 1 refine go_s rfl rfl rfl trivial ?_
    refine go_if (fun hc => ?_) (fun hc => ?_)
    · iterate 2 refine go_s rfl rfl rfl trivial ?_
      rw [hI]
      exact go_r rfl rfl rfl trivial ⟨rfl, B, rfl, fun _ _ => rfl, hI, a12, fun j h => hj j (by omega)⟩
    · exact absurd (nI_le (by omega) (by omega)) hc
  | succ d ih =>
    intro k B hw hk hI hj
    obtain ⟨a12, aL, -, -⟩ := hw a ha
    have ck : (nI k).toNatClampNeg = k := nI_clamp (by omega)
    iterate 3 refine go_s rfl rfl rfl trivial ?_
    rw [hI]
    iterate 1 refine go_s rfl rfl rfl trivial ?_
    refine go_if (fun hc => ?_) (fun hc => ?_)
    · exact absurd hc (nI_ge (by omega) (by omega))
    · iterate 6 refine go_s rfl rfl rfl trivial ?_
      refine go_c rfl rfl rfl (c_byteOf_w hw ha (k := k) (by omega)) ?_
      rintro r h3 ⟨rfl, rfl⟩
      have la := hw.at_lt (k := k) ha
      iterate 1 refine go_s rfl rfl rfl trivial ?_
      refine go_s rfl rfl rfl ?_ ?_
      · exact vp_in_nI (by omega) (by omega)
      simp only [ck, nar_byte la]
      iterate 2 refine go_s rfl rfl rfl trivial ?_
      rw [nI_1]
      have h18 : ∀ i, i ≠ 18 → va_up B 18 (upd (B 18) k (nI ((μ a).getD k 0))) i = B i := fun i hi => va_up_ne _ _ hi
      refine Go.mono (ih (k + 1) (va_up B 18 (upd (B 18) k (nI ((μ a).getD k 0)))) (hw.keep2 (h18 0 (by decide)) (h18 1 (by decide))) (by omega) hI (fun j hjk => ?_)) fun rr h' h => ?_
      · rw [va_up_self]
        rcases Nat.lt_or_ge j k with h | h
        · rw [pk_un (by omega)]; exact hj j h
        · rw [show j = k by omega, pk_us]
      · obtain ⟨g1, B2, g2, g3, g4⟩ := h
        exact ⟨g1, B2, g2, fun i hi => (g3 i hi).trans (h18 i hi), g4⟩
theorem c_show (hw : wm B μ) {a : Nat} (ha : a < 6034) : Do m_Mo_show [.ref 48, .int (nI a)] (hM T I B S D) (fun r h' => r = some (.int (nI (μ a).length)) ∧ ∃ B', h' = hM T (va_up I 11 (nI (μ a).length)) B' S D ∧ (∀ i, i ≠ 18 → B' i = B i) ∧ mshown (va_up I 11 (nI (μ a).length)) B' (μ a)) := by
  obtain ⟨a12, aL, -, -⟩ := hw a ha
  have ca : (nI a).toNatClampNeg = a := nI_clamp (by omega)
  iterate 4 refine go_s rfl rfl rfl trivial ?_
  refine go_s rfl rfl rfl ?_ ?_
  · exact vp_in_nI ha (by omega)
  simp only [ca, aL]
  iterate 3 refine go_s rfl rfl rfl trivial ?_
  exact l_show (I := va_up I 11 (nI (μ a).length)) ha (μ a).length 0 B hw (by omega) (va_up_self _ _ _) (fun j hj => by omega)
/-- at -/
def atS (w : List Nat) (x : Int32) : Int32 := if 0 ≤ x ∧ x < nI w.length then nI (w.getD x.toNatClampNeg 0) else -1
theorem c_at {w : List Nat} (hs : mshown I B w) (x : Int32) : Do m_Mo_at [.ref 48, .int x] (hM T I B S D) (fun r h' => r = some (.int (atS w x)) ∧ h' = hM T I B S D) := by
  obtain ⟨s1, s2, s3⟩ := hs
  iterate 2 refine go_s rfl rfl rfl trivial ?_
  refine go_if (fun h1 => ?_) (fun h1 => ?_)
  · iterate 1 refine go_s rfl rfl rfl trivial ?_
    refine go_r rfl rfl rfl trivial ⟨?_, rfl⟩
    rw [atS, if_neg (fun q => absurd h1 (Int32.not_lt.mpr q.1))]
  · iterate 3 refine go_s rfl rfl rfl trivial ?_
    rw [s1]
    iterate 1 refine go_s rfl rfl rfl trivial ?_
    refine go_if (fun h2 => ?_) (fun h2 => ?_)
    · iterate 1 refine go_s rfl rfl rfl trivial ?_
      refine go_r rfl rfl rfl trivial ⟨?_, rfl⟩
      rw [atS, if_neg (fun q => absurd q.2 (Int32.not_lt.mpr h2))]
    · obtain ⟨j, hj, rfl⟩ := nI_of (x := x) h1
      have hjl : j < w.length := (nI_ltI hj (by omega)).mp (Int32.not_le.mp h2)
      iterate 3 refine go_s rfl rfl rfl trivial ?_
      refine go_s rfl rfl rfl ?_ ?_
      · exact vp_in_nI (by omega) (by omega)
      iterate 1 refine go_s rfl rfl rfl trivial ?_
      refine go_r rfl rfl rfl trivial ⟨?_, rfl⟩
      rw [nI_clamp hj, s3 j hjl, atS, if_pos ⟨Int32.not_lt.mp h1, Int32.not_le.mp h2⟩, nI_clamp hj]
/-- answers -/
def mans (I : Nat → Int32) (B : Nat → Nat → Int32) (S : Nat → Int64) (na : Nat) (an : Nat → Nat) (sc : Nat → Int64) : Prop := I 9 = nI na ∧ na ≤ 40 ∧ ∀ i, i < na → B 16 i = nI (an i) ∧ S i = sc i
def ansS (na : Nat) (an : Nat → Nat) (x : Int32) : Int32 := if 0 ≤ x ∧ x < nI na then nI (an x.toNatClampNeg) else -2
def scoS (na : Nat) (sc : Nat → Int64) (x : Int32) : Int64 := if 0 ≤ x ∧ x < nI na then sc x.toNatClampNeg else 0
theorem c_answer {na : Nat} {an : Nat → Nat} {sc : Nat → Int64} (hs : mans I B S na an sc) (x : Int32) : Do m_Mo_answer [.ref 48, .int x] (hM T I B S D) (fun r h' => r = some (.int (ansS na an x)) ∧ h' = hM T I B S D) := by
  obtain ⟨s1, s2, s3⟩ := hs
  iterate 2 refine go_s rfl rfl rfl trivial ?_
  refine go_if (fun h1 => ?_) (fun h1 => ?_)
  · iterate 1 refine go_s rfl rfl rfl trivial ?_
    refine go_r rfl rfl rfl trivial ⟨?_, rfl⟩
    rw [ansS, if_neg (fun q => absurd h1 (Int32.not_lt.mpr q.1))]
  · iterate 3 refine go_s rfl rfl rfl trivial ?_
    rw [s1]
    iterate 1 refine go_s rfl rfl rfl trivial ?_
    refine go_if (fun h2 => ?_) (fun h2 => ?_)
    · iterate 1 refine go_s rfl rfl rfl trivial ?_
      refine go_r rfl rfl rfl trivial ⟨?_, rfl⟩
      rw [ansS, if_neg (fun q => absurd q.2 (Int32.not_lt.mpr h2))]
    · obtain ⟨j, hj, rfl⟩ := nI_of (x := x) h1
      have hjl : j < na := (nI_ltI hj (by omega)).mp (Int32.not_le.mp h2)
      iterate 3 refine go_s rfl rfl rfl trivial ?_
      refine go_s rfl rfl rfl ?_ ?_
      · exact vp_in_nI (by omega) (by omega)
      iterate 1 refine go_s rfl rfl rfl trivial ?_
      refine go_r rfl rfl rfl trivial ⟨?_, rfl⟩
      rw [nI_clamp hj, (s3 j hjl).1, ansS, if_pos ⟨Int32.not_lt.mp h1, Int32.not_le.mp h2⟩, nI_clamp hj]
theorem c_score {na : Nat} {an : Nat → Nat} {sc : Nat → Int64} (hs : mans I B S na an sc) (x : Int32) : Do m_Mo_score [.ref 48, .int x] (hM T I B S D) (fun r h' => r = some (.long (scoS na sc x)) ∧ h' = hM T I B S D) := by
  obtain ⟨s1, s2, s3⟩ := hs
  iterate 2 refine go_s rfl rfl rfl trivial ?_
  refine go_if (fun h1 => ?_) (fun h1 => ?_)
  · iterate 1 refine go_s rfl rfl rfl trivial ?_
    refine go_r rfl rfl rfl trivial ⟨?_, rfl⟩
    rw [scoS, if_neg (fun q => absurd h1 (Int32.not_lt.mpr q.1))]
  · iterate 3 refine go_s rfl rfl rfl trivial ?_
    rw [s1]
    iterate 1 refine go_s rfl rfl rfl trivial ?_
    refine go_if (fun h2 => ?_) (fun h2 => ?_)
    · iterate 1 refine go_s rfl rfl rfl trivial ?_
      refine go_r rfl rfl rfl trivial ⟨?_, rfl⟩
      rw [scoS, if_neg (fun q => absurd q.2 (Int32.not_lt.mpr h2))]
    · obtain ⟨j, hj, rfl⟩ := nI_of (x := x) h1
      have hjl : j < na := (nI_ltI hj (by omega)).mp (Int32.not_le.mp h2)
      iterate 3 refine go_s rfl rfl rfl trivial ?_
      refine go_s rfl rfl rfl ?_ ?_
      · exact vp_in_nI (by omega) (by omega)
      iterate 1 refine go_s rfl rfl rfl trivial ?_
      refine go_r rfl rfl rfl trivial ⟨?_, rfl⟩
      rw [nI_clamp hj, (s3 j hjl).2, scoS, if_pos ⟨Int32.not_lt.mp h1, Int32.not_le.mp h2⟩, nI_clamp hj]
end MSHOW
