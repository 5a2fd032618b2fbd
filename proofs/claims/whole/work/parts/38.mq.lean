/-! ===== the reference: a word of a question ===== -/
/-- what reading a word of a question changes: np the part, a the place of the word -/
def rwq (I : Nat → Int32) (B : Nat → Nat → Int32) (μ : Nat → List Nat) (np a : Nat) (I' : Nat → Int32) (B' : Nat → Nat → Int32) (μ' : Nat → List Nat) : Prop := (∀ i, i ≠ 6 → i ≠ 7 → i ≠ 8 → I' i = I i) ∧ (∀ i, 2 ≤ i → i ≠ 15 → B' i = B i) ∧ B' 15 = upd (B 15) np (B 15 np + 1) ∧ wm B' μ' ∧ (∀ x, x ≠ 4016 + a → μ' x = μ x) ∧ I' 6 = nI (min (a + 1) 47)
section MQ2
variable {T : Nat → am_C} {D : List am_C} {S : Nat → Int64} {P : tx_P}
theorem l_rw100 {I I0 : Nat → Int32} {B B0 : Nat → Nat → Int32} {μ μ0 : Nat → List Nat} {np a : Nat} (hnp : np < 96) (ha : a ≤ 47) (h5 : I 5 = nI np) (h6 : I 6 = nI a) (hI : ∀ i, i ≠ 6 → i ≠ 7 → i ≠ 8 → I i = I0 i) (hB : ∀ i, 2 ≤ i → B i = B0 i) (hw : wm B μ) (hm : ∀ x, x ≠ 4016 + a → μ x = μ0 x) :
    Go m_Mo_readWord 100 [some (.ref 48)] [] (hM T I B S D) (fun r h' => r = none ∧ ∃ I' B' μ', h' = hM T I' B' S D ∧ rwq I0 B0 μ0 np a I' B' μ' ∧ I' 7 = I 7 ∧ I' 8 = I 8 ∧ μ' = μ) := by
  have cn : (nI np).toNatClampNeg = np := nI_clamp (by omega)
  have fin : ∀ b : Nat, a + b = min (a + 1) 47 → Go m_Mo_readWord 119 [some (.ref 48)] [.int (nI b), .int (nI a), .ref 48] (hM T I B S D) (fun r h' => r = none ∧ ∃ I' B' μ', h' = hM T I' B' S D ∧ rwq I0 B0 μ0 np a I' B' μ' ∧ I' 7 = I 7 ∧ I' 8 = I 8 ∧ μ' = μ) := by
    intro b hb
    iterate 1 refine go_s rfl rfl rfl trivial ?_
    rw [nI_add, hb]
    iterate 6 refine go_s rfl rfl rfl trivial ?_
    change Go m_Mo_readWord 132 [some (.ref 48)] [.int (I 5), .ref 64, .int (I 5), .ref 64] (hM T (va_up I 6 (nI (min (a + 1) 47))) B S D) _
    rw [h5]
    refine go_s rfl rfl rfl ?_ ?_
    · exact vp_in_nI (by omega) (by omega)
    simp only [cn]
    iterate 2 refine go_s rfl rfl rfl trivial ?_
    refine go_s rfl rfl rfl ?_ ?_
    · exact vp_in_nI (by omega) (by omega)
    simp only [cn]
    refine go_r rfl rfl rfl trivial ⟨rfl, va_up I 6 (nI (min (a + 1) 47)), va_up B 15 (upd (B 15) np (B 15 np + 1)), μ, rfl, ⟨fun i h6 h7 h8 => (va_up_ne _ _ h6).trans (hI i h6 h7 h8), fun i h2 h15 => (va_up_ne _ _ h15).trans (hB i h2), ?_, hw.keep2 rfl rfl, hm, va_up_self _ _ _⟩, va_up_ne _ _ (by decide), va_up_ne _ _ (by decide), rfl⟩
    rw [va_up_self, hB 15 (by decide)]
  iterate 3 refine go_s rfl rfl rfl trivial ?_
  rw [h6]
  iterate 2 refine go_s rfl rfl rfl trivial ?_
  rw [h6]
  iterate 2 refine go_s rfl rfl rfl trivial ?_
  refine go_if (fun hc => ?_) (fun hc => ?_)
  · have : a = 47 := by
      have := (nI_leI (a := 47) (b := a) (by omega) (by omega)).mp hc
      omega
    iterate 1 refine go_s rfl rfl rfl trivial ?_
    exact fin 0 (by omega)
  · have : a < 47 := Nat.lt_of_not_le fun q => hc ((nI_leI (a := 47) (b := a) (by omega) (by omega)).mpr q)
    iterate 2 refine go_s rfl rfl rfl trivial ?_
    exact fin 1 (by omega)
def rwA (P : tx_P) (p : Nat) (I : Nat → Int32) (B : Nat → Nat → Int32) (μ : Nat → List Nat) (np a : Nat) (I' : Nat → Int32) (B' : Nat → Nat → Int32) (μ' : Nat → List Nat) : Prop := rwq I B μ np a I' B' μ' ∧ ((0 < wl P p ∧ wl P p ≤ 12 ∧ I' 7 = nI (p + wl P p) ∧ I' 8 = -1 ∧ μ' (4016 + a) = wrd P p (wl P p)) ∨ ((wl P p = 0 ∨ 12 < wl P p) ∧ ∃ q, q < 200 ∧ I' 7 = nI q ∧ I' 8 = nI (if wl P p = 0 then p else p + 12)))
theorem l_rw22 {I0 : Nat → Int32} {B0 : Nat → Nat → Int32} {μ0 : Nat → List Nat} {np a p : Nat} (hnp : np < 96) (ha : a ≤ 47) (hp : p < 100) (hl : 0 < wl P p) : ∀ (d k : Nat) (I : Nat → Int32) (B : Nat → Nat → Int32) (μ : Nat → List Nat), P.2 - (p + k) = d → gP P I B → wl P p = k + wl P (p + k) → k ≤ 12 → I 5 = nI np → I 6 = nI a → I 7 = nI (p + k) → I 8 = -1 → (∀ i, i ≠ 6 → i ≠ 7 → i ≠ 8 → I i = I0 i) → (∀ i, 2 ≤ i → B i = B0 i) → wm B μ → (∀ x, x ≠ 4016 + a → μ x = μ0 x) → μ (4016 + a) = wrd P p k →
    Go m_Mo_readWord 22 [some (.ref 48)] [] (hM T I B S D) (fun r h' => r = none ∧ ∃ I' B' μ', h' = hM T I' B' S D ∧ rwA P p I0 B0 μ0 np a I' B' μ') := by
  have e4 : (4016 : Int32) + nI a = nI (4016 + a) := by rw [show (4016 : Int32) = nI 4016 from rfl, nI_add]
  have c4 : (nI (4016 + a)).toNatClampNeg = 4016 + a := nI_clamp (by omega)
  have body : ∀ (k : Nat) (I : Nat → Int32) (B : Nat → Nat → Int32) (μ : Nat → List Nat), gP P I B → wl P p = k + wl P (p + k) → k ≤ 12 → I 5 = nI np → I 6 = nI a → I 7 = nI (p + k) → I 8 = -1 → (∀ i, i ≠ 6 → i ≠ 7 → i ≠ 8 → I i = I0 i) → (∀ i, 2 ≤ i → B i = B0 i) → wm B μ → (∀ x, x ≠ 4016 + a → μ x = μ0 x) → μ (4016 + a) = wrd P p k →
      (lq P (p + k) ≠ 0 → k < 12 → ∀ (I : Nat → Int32) (B : Nat → Nat → Int32) (μ : Nat → List Nat), gP P I B → wl P p = k + 1 + wl P (p + (k + 1)) → k + 1 ≤ 12 → I 5 = nI np → I 6 = nI a → I 7 = nI (p + (k + 1)) → I 8 = -1 → (∀ i, i ≠ 6 → i ≠ 7 → i ≠ 8 → I i = I0 i) → (∀ i, 2 ≤ i → B i = B0 i) → wm B μ → (∀ x, x ≠ 4016 + a → μ x = μ0 x) → μ (4016 + a) = wrd P p (k + 1) → Go m_Mo_readWord 22 [some (.ref 48)] [] (hM T I B S D) (fun r h' => r = none ∧ ∃ I' B' μ', h' = hM T I' B' S D ∧ rwA P p I0 B0 μ0 np a I' B' μ')) →
      Go m_Mo_readWord 22 [some (.ref 48)] [] (hM T I B S D) (fun r h' => r = none ∧ ∃ I' B' μ', h' = hM T I' B' S D ∧ rwA P p I0 B0 μ0 np a I' B' μ') := by
    intro k I B μ hP hk k12 h5 h6 h7 h8 hI hB hw hm hμ next
    have cp : (nI (p + k)).toNatClampNeg = p + k := nI_clamp (by omega)
    iterate 2 refine go_s rfl rfl rfl trivial ?_
    rw [h8]
    iterate 1 refine go_s rfl rfl rfl trivial ?_
    refine go_if (fun hc => ?_) (fun hc => ?_)
    · exact absurd hc (by decide)
    · iterate 1 refine go_s rfl rfl rfl trivial ?_
      refine go_c rfl rfl rfl (c_isLetter hP (by omega) h7) ?_
      rintro r h3 ⟨rfl, rfl⟩
      iterate 1 refine go_s rfl rfl rfl trivial ?_
      refine go_if (fun hc => ?_) (fun hc => ?_)
      · have hz : lq P (p + k) = 0 := Classical.not_not.mp (b01_eq0.mp hc)
        rw [wl_no hz] at hk
        refine Go.mono (l_rw100 hnp ha h5 h6 hI hB hw hm) fun r h' h => ?_
        obtain ⟨g1, I1, B1, μ1, g2, g3, g4, g5, rfl⟩ := h
        refine ⟨g1, I1, B1, _, g2, g3, Or.inl ⟨hl, by omega, ?_, g5.trans h8, ?_⟩⟩
        · rw [g4, h7, hk]; rfl
        · rw [hμ, hk]; rfl
      · have hnz : lq P (p + k) ≠ 0 := fun q => hc (b01_f (fun q2 => q2 q))
        have hpn : p + k < P.2 := (lq_sy hnz).2.2.2.2.2
        have hn96 : P.2 ≤ 96 := hP.2.1
        have ew := wl_yes hnz
        obtain ⟨w12, wL, -, -⟩ := hw (4016 + a) (by omega)
        rw [hμ, wrd_len] at w12 wL
        obtain ⟨y1, y2⟩ := hP.2.2 (p + k) hpn
        have e : lq P (p + k) = ltr (P.1 (p + k)) := if_pos hpn
        have hlt := ltr_lt y2
        iterate 6 refine go_s rfl rfl rfl trivial ?_
        rw [h6]
        iterate 1 refine go_s rfl rfl rfl trivial ?_
        rw [e4]
        refine go_s rfl rfl rfl ?_ ?_
        · exact vp_in_nI (by omega) (by omega)
        simp only [c4, wL]
        iterate 2 refine go_s rfl rfl rfl trivial ?_
        refine go_if (fun hc2 => ?_) (fun hc2 => ?_)
        · have ek : k = 12 := by
            have := (nI_leI (a := 12) (b := k) (by omega) (by omega)).mp hc2
            omega
          iterate 1 refine go_s rfl rfl rfl trivial ?_
          refine go_c rfl rfl rfl (c_need0 h8) ?_
          rintro r h3 ⟨rfl, rfl⟩
          rw [h7]
          iterate 4 refine go_s rfl rfl rfl trivial ?_
          rw [show va_up I 8 (nI (p + k)) 6 = nI a from (va_up_ne _ _ (by decide)).trans h6]
          iterate 1 refine go_s rfl rfl rfl trivial ?_
          rw [e4]
          iterate 4 refine go_s rfl rfl rfl trivial ?_
          rw [show va_up I 8 (nI (p + k)) 7 = nI (p + k) from (va_up_ne _ _ (by decide)).trans h7]
          refine go_s rfl rfl rfl ?_ ?_
          · exact vp_in_nI (by omega) (by omega)
          simp only [cp, y1]
          refine go_c rfl rfl rfl (c_letter _ _) ?_
          rintro r h3 ⟨rfl, rfl⟩
          rw [lteI_sb y2]
          refine go_c rfl rfl rfl (c_add hw (a := 4016 + a) (by omega) hlt) ?_
          rintro r h3 ⟨rfl, B1, rfl, hs1, hw1⟩
          rw [if_pos (by rw [hμ, wrd_len]; exact ek), up_idG] at hw1
          iterate 3 refine go_s rfl rfl rfl trivial ?_
          rw [show va_up I 8 (nI (p + k)) 7 = nI (p + k) from (va_up_ne _ _ (by decide)).trans h7]
          iterate 2 refine go_s rfl rfl rfl trivial ?_
          rw [nI_1]
          iterate 2 refine go_s rfl rfl rfl trivial ?_
          iterate 2 refine go_s rfl rfl rfl trivial ?_
          rw [show va_up I 8 (nI (p + k)) 8 = nI (p + k) from va_up_self _ _ _]
          iterate 1 refine go_s rfl rfl rfl trivial ?_
          refine go_if (fun hc3 => ?_) (fun hc3 => ?_)
          · refine Go.mono (l_rw100 (I := va_up (va_up I 8 (nI (p + k))) 7 (nI (p + k + 1))) (I0 := I0) (B0 := B0) (μ0 := μ0) hnp ha ((va_up_ne _ _ (by decide)).trans ((va_up_ne _ _ (by decide)).trans h5)) ((va_up_ne _ _ (by decide)).trans ((va_up_ne _ _ (by decide)).trans h6)) (fun i a b c => (va_up_ne _ _ b).trans ((va_up_ne _ _ c).trans (hI i a b c))) (fun i h2 => (hs1 i h2).trans (hB i h2)) hw1 hm) fun r h' h => ?_
            obtain ⟨g1, I1, B2, μ1, g2, g3, g4, g5, rfl⟩ := h
            refine ⟨g1, I1, B2, _, g2, g3, Or.inr ⟨Or.inr (by omega), p + k + 1, by omega, ?_, ?_⟩⟩
            · rw [g4, va_up_self]
            · rw [g5, va_up_ne _ _ (by decide), va_up_self, if_neg (by omega), ek]
          · exact absurd (Int32.not_lt.mp (nI_pos (by omega))) hc3
        · have k12' : k < 12 := Nat.lt_of_not_le fun q => hc2 ((nI_leI (a := 12) (b := k) (by omega) (by omega)).mpr q)
          iterate 2 refine go_s rfl rfl rfl trivial ?_
          refine go_c rfl rfl rfl (c_need1 _ _ _ _ _) ?_
          rintro r h3 ⟨rfl, rfl⟩
          iterate 4 refine go_s rfl rfl rfl trivial ?_
          rw [h6]
          iterate 1 refine go_s rfl rfl rfl trivial ?_
          rw [e4]
          iterate 4 refine go_s rfl rfl rfl trivial ?_
          rw [h7]
          refine go_s rfl rfl rfl ?_ ?_
          · exact vp_in_nI (by omega) (by omega)
          simp only [cp, y1]
          refine go_c rfl rfl rfl (c_letter _ _) ?_
          rintro r h3 ⟨rfl, rfl⟩
          rw [lteI_sb y2]
          refine go_c rfl rfl rfl (c_add hw (a := 4016 + a) (by omega) hlt) ?_
          rintro r h3 ⟨rfl, B1, rfl, hs1, hw1⟩
          rw [if_neg (by rw [hμ, wrd_len]; omega), hμ] at hw1
          iterate 3 refine go_s rfl rfl rfl trivial ?_
          rw [h7]
          iterate 2 refine go_s rfl rfl rfl trivial ?_
          rw [nI_1]
          iterate 2 refine go_s rfl rfl rfl trivial ?_
          refine next hnz k12' (va_up I 7 (nI (p + k + 1))) B1 _ (hP.keep (va_up_ne _ _ (by decide)) (hs1 2 (by decide))) (by rw [hk, ew, show p + (k + 1) = p + k + 1 from rfl]; omega) (by omega) ((va_up_ne _ _ (by decide)).trans h5) ((va_up_ne _ _ (by decide)).trans h6) (va_up_self _ _ _) ((va_up_ne _ _ (by decide)).trans h8) (fun i a b c => (va_up_ne _ _ b).trans (hI i a b c)) (fun i h2 => (hs1 i h2).trans (hB i h2)) hw1 (fun x hx => (va_up_ne _ _ hx).trans (hm x hx)) ?_
          rw [va_up_self, wrd_succ, e]
  intro d
  induction d with
  | zero =>
    intro k I B μ hd hP hk k12 h5 h6 h7 h8 hI hB hw hm hμ
    refine body k I B μ hP hk k12 h5 h6 h7 h8 hI hB hw hm hμ fun q _ => absurd (lq_out (by omega)) q
  | succ d ih =>
    intro k I B μ hd hP hk k12 h5 h6 h7 h8 hI hB hw hm hμ
    exact body k I B μ hP hk k12 h5 h6 h7 h8 hI hB hw hm hμ fun q k12' I B μ => ih (k + 1) I B μ (by omega)
theorem c_readWord {I : Nat → Int32} {B : Nat → Nat → Int32} {μ : Nat → List Nat} {np a p : Nat} (hnp : np < 96) (ha : a ≤ 47) (hp : p < 100) (hP : gP P I B) (hw : wm B μ) (h5 : I 5 = nI np) (h6 : I 6 = nI a) (h7 : I 7 = nI p) (h8 : I 8 = -1) :
    Do m_Mo_readWord [.ref 48] (hM T I B S D) (fun r h' => r = none ∧ ∃ I' B' μ', h' = hM T I' B' S D ∧ rwA P p I B μ np a I' B' μ') := by
  have e4 : (4016 : Int32) + nI a = nI (4016 + a) := by rw [show (4016 : Int32) = nI 4016 from rfl, nI_add]
  have c4 : (nI (4016 + a)).toNatClampNeg = 4016 + a := nI_clamp (by omega)
  iterate 2 refine go_s rfl rfl rfl trivial ?_
  refine go_c rfl rfl rfl (c_isLetter hP (by omega) h7) ?_
  rintro r h3 ⟨rfl, rfl⟩
  have hw0 : wm (va_up B 1 (upd (B 1) (4016 + a) 0)) (va_up μ (4016 + a) []) := wm_len0 hw (by omega) rfl rfl
  by_cases hz : lq P p = 0
  · rw [b01_f (fun q => q hz)]
    refine go_c rfl rfl rfl (c_need0 h8) ?_
    rintro r h3 ⟨rfl, rfl⟩
    rw [h7]
    iterate 5 refine go_s rfl rfl rfl trivial ?_
    rw [show va_up I 8 (nI p) 6 = nI a from (va_up_ne _ _ (by decide)).trans h6]
    iterate 2 refine go_s rfl rfl rfl trivial ?_
    rw [e4]
    refine go_s rfl rfl rfl ?_ ?_
    · exact vp_in_nI (by omega) (by omega)
    simp only [c4]
    iterate 2 refine go_s rfl rfl rfl trivial ?_
    rw [show va_up I 8 (nI p) 8 = nI p from va_up_self _ _ _]
    iterate 1 refine go_s rfl rfl rfl trivial ?_
    refine go_if (fun hc => ?_) (fun hc => ?_)
    · refine Go.mono (l_rw100 (I := va_up I 8 (nI p)) (I0 := I) (B := va_up B 1 (upd (B 1) (4016 + a) 0)) (B0 := B) (μ := va_up μ (4016 + a) []) (μ0 := μ) hnp ha ((va_up_ne _ _ (by decide)).trans h5) ((va_up_ne _ _ (by decide)).trans h6) (fun i _ _ c => va_up_ne _ _ c) (fun i h2 => va_up_ne _ _ (by omega)) hw0 (fun x hx => va_up_ne _ _ hx)) fun r h' h => ?_
      obtain ⟨g1, I1, B2, μ1, g2, g3, g4, g5, rfl⟩ := h
      refine ⟨g1, I1, B2, _, g2, g3, Or.inr ⟨Or.inl (wl_no hz), p, by omega, ?_, ?_⟩⟩
      · rw [g4, va_up_ne _ _ (by decide), h7]
      · rw [g5, va_up_self, if_pos (wl_no hz)]
    · exact absurd (Int32.not_lt.mp (nI_pos (by omega))) hc
  · rw [b01_t hz]
    refine go_c rfl rfl rfl (c_need1 _ _ _ _ _) ?_
    rintro r h3 ⟨rfl, rfl⟩
    iterate 5 refine go_s rfl rfl rfl trivial ?_
    rw [h6]
    iterate 2 refine go_s rfl rfl rfl trivial ?_
    rw [e4]
    refine go_s rfl rfl rfl ?_ ?_
    · exact vp_in_nI (by omega) (by omega)
    simp only [c4]
    exact l_rw22 (I0 := I) (B0 := B) (μ0 := μ) hnp ha hp (by rw [wl_yes hz]; omega) _ 0 I (va_up B 1 (upd (B 1) (4016 + a) 0)) (va_up μ (4016 + a) []) rfl (hP.keep rfl rfl) (by simp) (by omega) h5 h6 h7 h8 (fun _ _ _ _ => rfl) (fun i h2 => va_up_ne _ _ (by omega)) hw0 (fun x hx => va_up_ne _ _ hx) (va_up_self _ _ _)
end MQ2
