/-! ===== the reference: stop words, stems ===== -/
def stopQ (n : Nat) (B : Nat → Nat → Int32) (μ : Nat → List Nat) (x : Int32) (w : List Nat) : Prop := ∃ k, k < n ∧ B 8 k = x ∧ μ (1920 + k) = w
/-- the stem of a word by the first rule that fits -/
def stemF : List (List Nat × List Nat) → List Nat → List Nat
  | [], w => w
  | r :: rs, w => if r.1.length + 3 ≤ w.length ∧ w.drop (w.length - r.1.length) = r.1 then (w.take (w.length - r.1.length) ++ r.2).take 12 else stemF rs w
section MSTEM2
variable {T : Nat → am_C} {D : List am_C} {I : Nat → Int32} {B : Nat → Nat → Int32} {S : Nat → Int64} {μ : Nat → List Nat}
theorem l_isStop (hw : wm B μ) {a n : Nat} {x : Int32} (ha : a < 6034) (hn : I 3 = nI n) (hn2 : n ≤ 2000) : ∀ (d k : Nat), n = k + d → (∀ j, j < k → ¬ (B 8 j = x ∧ μ (1920 + j) = μ a)) →
    Go m_Mo_isStop 2 [some (.ref 48), some (.int x), some (.int (nI a)), some (.int (nI k))] [] (hM T I B S D) (fun r h' => r = some (.int (b01 (stopQ n B μ x (μ a)))) ∧ h' = hM T I B S D) := by
  intro d
  induction d with
  | zero =>
    intro k hk hf
    iterate 4 refine go_s rfl rfl rfl trivial ?_
    rw [hn]
    refine go_if (fun hc => ?_) (fun hc => ?_)
    · iterate 1 refine go_s rfl rfl rfl trivial ?_
      have e : b01 (stopQ n B μ x (μ a)) = 0 := b01_f fun ⟨j, h1, h2⟩ => hf j (by omega) h2
      rw [e]
      exact go_r rfl rfl rfl (Or.inl rfl) ⟨rfl, rfl⟩
    · exact absurd (nI_le (by omega) (by omega)) hc
  | succ d ih =>
    intro k hk hf
    have ck : (nI k).toNatClampNeg = k := nI_clamp (by omega)
    have go_on : ¬ (B 8 k = x ∧ μ (1920 + k) = μ a) → Go m_Mo_isStop 35 [some (.ref 48), some (.int x), some (.int (nI a)), some (.int (nI k))] [] (hM T I B S D) (fun r h' => r = some (.int (b01 (stopQ n B μ x (μ a)))) ∧ h' = hM T I B S D) := by
      intro hno
      iterate 2 refine go_s rfl rfl rfl trivial ?_
      rw [nI_1]
      refine ih (k + 1) (by omega) fun j hj => ?_
      rcases Nat.lt_or_ge j k with hjk | hjk
      · exact hf j hjk
      · rw [show j = k by omega]; exact hno
    iterate 4 refine go_s rfl rfl rfl trivial ?_
    rw [hn]
    refine go_if (fun hc => ?_) (fun hc => ?_)
    · exact absurd hc (nI_ge (by omega) (by omega))
    · iterate 3 refine go_s rfl rfl rfl trivial ?_
      refine go_s rfl rfl rfl ?_ ?_
      · exact vp_in_nI (by omega) (by omega)
      simp only [ck]
      iterate 2 refine go_s rfl rfl rfl trivial ?_
      refine go_if (fun hcx => go_on fun q => hcx q.1) (fun hcx => ?_)
      · iterate 4 refine go_s rfl rfl rfl trivial ?_
        rw [show (1920 : Int32) + nI k = nI (1920 + k) by rw [show (1920 : Int32) = nI 1920 from rfl, nI_add]]
        iterate 1 refine go_s rfl rfl rfl trivial ?_
        refine go_c rfl rfl rfl (c_same hw (a := 1920 + k) (by omega) ha) ?_
        rintro r h3 ⟨rfl, rfl⟩
        iterate 1 refine go_s rfl rfl rfl trivial ?_
        refine go_if (fun hc => ?_) (fun hc => ?_)
        · exact go_on fun q => (b01_eq0.mp hc) q.2
        · iterate 1 refine go_s rfl rfl rfl trivial ?_
          have hq : μ (1920 + k) = μ a := Classical.not_not.mp fun q => hc (b01_f q)
          have e : b01 (stopQ n B μ x (μ a)) = 1 := b01_t ⟨k, by omega, Classical.not_not.mp hcx, hq⟩
          rw [e]
          exact go_r rfl rfl rfl (Or.inr rfl) ⟨rfl, rfl⟩
/-- the rules of a language from the r-th on -/
def rl (μ : Nat → List Nat) (l : Nat) : Nat → Nat → List (List Nat × List Nat)
  | _, 0 => []
  | r, d + 1 => (μ (3920 + 16 * l + 2 * r), μ (3920 + 16 * l + 2 * r + 1)) :: rl μ l (r + 1) d
theorem c_isStop (hw : wm B μ) {a n : Nat} {x : Int32} (ha : a < 6034) (hn : I 3 = nI n) (hn2 : n ≤ 2000) : Do m_Mo_isStop [.ref 48, .int x, .int (nI a)] (hM T I B S D) (fun r h' => r = some (.int (b01 (stopQ n B μ x (μ a)))) ∧ h' = hM T I B S D) := by
  iterate 2 refine go_s rfl rfl rfl trivial ?_
  exact l_isStop hw ha hn hn2 n 0 (by omega) (fun j hj => by omega)
theorem c_endingAt (h : List am_C) (l r : Nat) : Do m_Mo_endingAt [.int (nI l), .int (nI r)] h (fun v h' => v = some (.int (nI (3920 + 16 * l + 2 * r))) ∧ h' = h) := by
  iterate 9 refine go_s rfl rfl rfl trivial ?_
  refine go_r rfl rfl rfl trivial ⟨?_, rfl⟩
  rw [show (3920 : Int32) = nI 3920 from rfl, show (16 : Int32) = nI 16 from rfl, show (2 : Int32) = nI 2 from rfl, pk_mul, pk_mul, nI_add, nI_add]
theorem add_take {z rest : List Nat} {x : Nat} (hz : z.length ≤ 12) : ((if z.length = 12 then z else z ++ [x]) ++ rest).take 12 = (z ++ x :: rest).take 12 := by
  by_cases h : z.length = 12
  · rw [if_pos h, List.take_append_of_le_length (by omega), List.take_append_of_le_length (by omega)]
  · rw [if_neg h, List.append_assoc]
    rfl
theorem l_st110 {l a to en : Nat} {r : Int32} (ht : to < 6034) (he : en + 1 < 6034) (hne : en + 1 ≠ to) : ∀ (d k : Nat) (B : Nat → Nat → Int32) (μ : Nat → List Nat), wm B μ → (μ (en + 1)).length = k + d →
    Go m_Mo_stemTo 110 [some (.ref 48), some (.int (nI l)), some (.int (nI a)), some (.int (nI to)), some (.int r), some (.int (nI en)), some (.int (nI k))] [] (hM T I B S D) (fun r h' => r = none ∧ ∃ B', h' = hM T I B' S D ∧ wsame B B' ∧ wm B' (va_up μ to ((μ to ++ (μ (en + 1)).drop k).take 12))) := by
  have ce : (nI (en + 1)).toNatClampNeg = en + 1 := nI_clamp (by omega)
  intro d
  induction d with
  | zero =>
    intro k B μ hw hk
    obtain ⟨e12, eL, -, -⟩ := hw (en + 1) he
    iterate 6 refine go_s rfl rfl rfl trivial ?_
    rw [nI_1]
    refine go_s rfl rfl rfl ?_ ?_
    · exact vp_in_nI he (by omega)
    iterate 1 refine go_s rfl rfl rfl trivial ?_
    simp only [ce, eL]
    refine go_if (fun hc => ?_) (fun hc => ?_)
    · refine go_r rfl rfl rfl trivial ⟨rfl, B, rfl, wsame.rf B, ?_⟩
      rw [List.drop_eq_nil_of_le (by omega), List.append_nil, List.take_of_length_le (hw to ht).1]
      have : va_up μ to (μ to) = μ := by
        funext j
        by_cases hj : j = to
        · subst hj; rw [va_up_self]
        · rw [va_up_ne _ _ hj]
      rw [this]
      exact hw
    · exact absurd (nI_le (by omega) (by omega)) hc
  | succ d ih =>
    intro k B μ hw hk
    obtain ⟨e12, eL, -, -⟩ := hw (en + 1) he
    iterate 6 refine go_s rfl rfl rfl trivial ?_
    rw [nI_1]
    refine go_s rfl rfl rfl ?_ ?_
    · exact vp_in_nI he (by omega)
    iterate 1 refine go_s rfl rfl rfl trivial ?_
    simp only [ce, eL]
    refine go_if (fun hc => ?_) (fun hc => ?_)
    · exact absurd hc (nI_ge (by omega) (by omega))
    · iterate 7 refine go_s rfl rfl rfl trivial ?_
      rw [nI_1]
      refine go_c rfl rfl rfl (c_byteOf_w hw he (k := k) (by omega)) ?_
      rintro rr h3 ⟨rfl, rfl⟩
      have la := hw.at_lt (k := k) he
      refine go_c rfl rfl rfl (c_add hw ht la) ?_
      rintro rr h3 ⟨rfl, B1, rfl, hs1, hw1⟩
      iterate 2 refine go_s rfl rfl rfl trivial ?_
      rw [nI_1]
      have e1 : ∀ w, va_up μ to w (en + 1) = μ (en + 1) := fun w => va_up_ne _ _ hne
      refine (ih (k + 1) B1 _ hw1 (by rw [e1]; omega)).mono fun rr h' h => ?_
      obtain ⟨h1, B2, h2, h3, h4⟩ := h
      refine ⟨h1, B2, h2, hs1.tr h3, ?_⟩
      rw [e1, va_up_self, bx_uu, add_take (hw to ht).1] at h4
      have e2 : (μ (en + 1)).getD k 0 :: (μ (en + 1)).drop (k + 1) = (μ (en + 1)).drop k := by
        rw [List.getD_eq_getElem?_getD, List.getElem?_eq_getElem (by omega : k < (μ (en + 1)).length)]
        exact (List.drop_eq_getElem_cons (by omega)).symm
      rw [e2] at h4
      exact h4
end MSTEM2
