/-! ===== the class's tape: its words ===== -/
/-- the words that were found -/
def cW (z : wS) (J : Nat → Int32) (N : Nat → Nat → Int32) (G : Nat → Nat → Int64) : Prop := J 1 = nI z.1 ∧ z.1 ≤ 48 ∧ ∀ i, i < z.1 → G 0 i = lN (enc (z.2.2.1 i)) ∧ N 1 i = nI (z.2.2.2.1 i) ∧ N 2 i = nI (z.2.2.2.2 i)
section TAPE2
variable {L : Nat} {xs : Nat → Int32} {J : Nat → Int32} {N : Nat → Nat → Int32} {G : Nat → Nat → Int64} {U : Int64} {p : Nat → Nat} {M : Nat → am_C} {D : List am_C} {P : tx_P}
theorem c_Ta_keepWord (h : cP P J N) {s c : Nat} (hs : s ≤ P.2) (hc : c < 48) (h1 : J 1 = nI c) : Do m_Ta_keepWord [.ref 7, .int (nI s), .int (nI (s + wl P s))] (hC L xs J N G U p M D) (fun r h' => r = none ∧ h' = hC L xs (va_up J 1 (nI (c + 1))) (va_up (va_up N 1 (upd (N 1) c (nI s))) 2 (upd (N 2) c (nI (wl P s)))) (va_up G 0 (vp_updL (G 0) c (lN (enc ((wrd P s (wl P s)).take 12))))) U p M D) := by
  have cc : (nI c).toNatClampNeg = c := nI_clamp (by omega)
  have hwl := wl_le hs
  have h96 := h.2.1
  iterate 2 refine go_s rfl rfl rfl trivial ?_
  rw [h1]
  iterate 2 refine go_s rfl rfl rfl trivial ?_
  refine go_if (fun q => absurd q (nI_ge (a := c) (b := 48) (by omega) (by omega))) (fun _ => ?_)
  iterate 4 refine go_s rfl rfl rfl trivial ?_
  rw [h1]
  iterate 3 refine go_s rfl rfl rfl trivial ?_
  refine go_c rfl rfl rfl (c_Ta_wordBetween h hs) ?_
  rintro r h2 ⟨rfl, rfl⟩
  refine go_s rfl rfl rfl ?_ ?_
  · exact vp_in_nI (by omega) (by omega)
  simp only [cc]
  iterate 4 refine go_s rfl rfl rfl trivial ?_
  rw [h1]
  iterate 1 refine go_s rfl rfl rfl trivial ?_
  refine go_s rfl rfl rfl ?_ ?_
  · exact vp_in_nI (by omega) (by omega)
  simp only [cc]
  iterate 4 refine go_s rfl rfl rfl trivial ?_
  rw [h1]
  iterate 3 refine go_s rfl rfl rfl trivial ?_
  rw [pk_sub (by omega), Nat.add_sub_cancel_left]
  refine go_s rfl rfl rfl ?_ ?_
  · exact vp_in_nI (by omega) (by omega)
  simp only [cc]
  iterate 3 refine go_s rfl rfl rfl trivial ?_
  rw [h1]
  iterate 2 refine go_s rfl rfl rfl trivial ?_
  rw [nI_1]
  iterate 1 refine go_s rfl rfl rfl trivial ?_
  exact go_r rfl rfl rfl trivial ⟨rfl, rfl⟩
theorem c_Ta_split (h : cP P J N) : Do m_Ta_split [.ref 7] (hC L xs J N G U p M D) (fun r h' => r = some (.int (nI (wst P.1 P.2).1)) ∧ ∃ J' N' G', h' = hC L xs J' N' G' U p M D ∧ cW (wst P.1 P.2) J' N' G' ∧ (∀ i, i ≠ 1 → J' i = J i) ∧ (∀ i, i ≠ 1 → i ≠ 2 → N' i = N i) ∧ ∀ i, i ≠ 0 → G' i = G i) := by
  have h96 := h.2.1
  have key : ∀ (d k : Nat) (X3 : Option Value) (J1 : Nat → Int32) (N1 : Nat → Nat → Int32) (G1 : Nat → Nat → Int64), P.2 = k + d → J1 1 = nI (wst P.1 k).1 → (∀ i, i < (wst P.1 k).1 → G1 0 i = lN (enc ((wst P.1 P.2).2.2.1 i)) ∧ N1 1 i = nI ((wst P.1 P.2).2.2.2.1 i) ∧ N1 2 i = nI ((wst P.1 P.2).2.2.2.2 i)) → (∀ i, i ≠ 1 → J1 i = J i) → (∀ i, i ≠ 1 → i ≠ 2 → N1 i = N i) → (∀ i, i ≠ 0 → G1 i = G i) →
      Go m_Ta_split 9 [some (.ref 7), some (.int (bI (wst P.1 k).2.1)), some (.int (nI k)), X3] [] (hC L xs J1 N1 G1 U p M D) (fun r h' => r = some (.int (nI (wst P.1 P.2).1)) ∧ ∃ J' N' G', h' = hC L xs J' N' G' U p M D ∧ cW (wst P.1 P.2) J' N' G' ∧ (∀ i, i ≠ 1 → J' i = J i) ∧ (∀ i, i ≠ 1 → i ≠ 2 → N' i = N i) ∧ ∀ i, i ≠ 0 → G' i = G i) := by
    intro d
    induction d with
    | zero =>
      intro k X3 J1 N1 G1 hk hJ1 hw hJ hN hG
      have ek : k = P.2 := by omega
      subst ek
      have hl := wst_len P.1 P.2
      have z48 : (wst P.1 P.2).1 ≤ 48 := by
        cases hb : (wst P.1 P.2).2.1 with
        | true => have := hl.1 hb; omega
        | false => have := hl.2 hb; omega
      iterate 3 refine go_s rfl rfl rfl trivial ?_
      rw [hJ 0 (by decide), h.1]
      iterate 1 refine go_s rfl rfl rfl trivial ?_
      refine go_if (fun _ => ?_) (fun hc => absurd (Int32.le_refl _) hc)
      iterate 2 refine go_s rfl rfl rfl trivial ?_
      exact go_r rfl rfl rfl trivial ⟨by rw [hJ1], J1, N1, G1, rfl, ⟨hJ1, z48, hw⟩, hJ, hN, hG⟩
    | succ d ih =>
      intro k X3 J1 N1 G1 hk hJ1 hw hJ hN hG
      have hP1 : cP P J1 N1 := h.keep (hJ 0 (by decide)) (hN 0 (by decide) (by decide))
      obtain ⟨y1, y2⟩ := h.2.2 k (by omega)
      have e1 : lq P k = ltr (P.1 k) := if_pos (by omega)
      have e2 : symI P k = nI (P.1 k) := if_pos (by omega)
      have hd := dgb_lt (P.1 k)
      have e0 : wst P.1 (k + 1) = stS (wst P.1 k) k (ltr (P.1 k)) := rfl
      have hl := wst_len P.1 k
      iterate 3 refine go_s rfl rfl rfl trivial ?_
      rw [hJ 0 (by decide), h.1]
      iterate 1 refine go_s rfl rfl rfl trivial ?_
      refine go_if (fun hc => absurd hc (nI_ge (by omega) (by omega))) (fun _ => ?_)
      iterate 4 refine go_s rfl rfl rfl trivial ?_
      refine go_c rfl rfl rfl (c_Ta_symbolAt hP1 (k := k) (by omega)) ?_
      rintro r h1 ⟨rfl, rfl⟩
      rw [e2]
      refine go_c rfl rfl rfl (c_digitOf _ y2) ?_
      rintro r h1 ⟨rfl, rfl⟩
      iterate 1 refine go_s rfl rfl rfl trivial ?_
      refine go_if (fun hc => ?_) (fun hc => ?_)
      · have hz : ltr (P.1 k) = 0 := (dgb_z _).mp (nI_inj (by omega) (by omega) hc)
        rw [hz] at e0
        have e3 : wst P.1 (k + 1) = ((wst P.1 k).1, false, (wst P.1 k).2.2) := e0
        iterate 4 refine go_s rfl rfl rfl trivial ?_
        refine go_if (fun _ => ?_) (fun hc => absurd rfl hc)
        iterate 2 refine go_s rfl rfl rfl trivial ?_
        rw [nI_1]
        have := ih (k + 1) (some (.int (bI (wst P.1 k).2.1))) J1 N1 G1 (by omega) (by rw [e3]; exact hJ1) (by rw [e3]; exact hw) hJ hN hG
        rw [show (wst P.1 (k + 1)).2.1 = false by rw [e3]] at this
        exact this
      · have hz : ¬ ltr (P.1 k) = 0 := fun q => hc (by rw [(dgb_z _).mpr q]; rfl)
        iterate 5 refine go_s rfl rfl rfl trivial ?_
        refine go_if (fun hc => absurd hc (by decide)) (fun _ => ?_)
        iterate 2 refine go_s rfl rfl rfl trivial ?_
        cases hin : (wst P.1 k).2.1 with
        | true =>
          have e3 : wst P.1 (k + 1) = addS (wst P.1 k) (ltr (P.1 k)) := by rw [e0, stS, if_neg hz, if_pos hin]
          refine go_if (fun _ => ?_) (fun hc => absurd (by decide) hc)
          iterate 2 refine go_s rfl rfl rfl trivial ?_
          rw [nI_1]
          have := ih (k + 1) (some (.int (bI true))) J1 N1 G1 (by omega) (by rw [e3]; exact hJ1) (by rw [e3]; exact hw) hJ hN hG
          rw [show (wst P.1 (k + 1)).2.1 = true by rw [e3]; rfl] at this
          exact this
        | false =>
          have e3 : wst P.1 (k + 1) = addS (newS (wst P.1 k) k) (ltr (P.1 k)) := by rw [e0, stS, if_neg hz, if_neg (by rw [hin]; decide)]
          have hlc := hl.2 hin
          obtain ⟨f1, f2, f3⟩ := wst_fin P hin (by rw [e1]; exact hz)
          refine go_if (fun hc => absurd rfl hc) (fun _ => ?_)
          iterate 4 refine go_s rfl rfl rfl trivial ?_
          refine go_c rfl rfl rfl (c_Ta_wordEnd hP1 (s := k) (by omega)) ?_
          rintro r h1 ⟨rfl, rfl⟩
          refine go_c rfl rfl rfl (c_Ta_keepWord hP1 (s := k) (c := (wst P.1 k).1) (by omega) (by omega) hJ1) ?_
          rintro r h1 ⟨rfl, rfl⟩
          iterate 2 refine go_s rfl rfl rfl trivial ?_
          rw [nI_1]
          have := ih (k + 1) (some (.int (bI false))) (va_up J1 1 (nI ((wst P.1 k).1 + 1))) (va_up (va_up N1 1 (upd (N1 1) (wst P.1 k).1 (nI k))) 2 (upd (N1 2) (wst P.1 k).1 (nI (wl P k)))) (va_up G1 0 (vp_updL (G1 0) (wst P.1 k).1 (lN (enc ((wrd P k (wl P k)).take 12))))) (by omega) (by rw [e3]; exact va_up_self _ _ _) (fun i hi => ?_) (fun i hi => (va_up_ne _ _ hi).trans (hJ i hi)) (fun i a b => (va_up_ne _ _ b).trans ((va_up_ne _ _ a).trans (hN i a b))) (fun i hi => (va_up_ne _ _ hi).trans (hG i hi))
          · rw [show (wst P.1 (k + 1)).2.1 = true by rw [e3]; rfl] at this
            exact this
          · rw [e3] at hi
            have hi' : i < (wst P.1 k).1 + 1 := hi
            rw [va_up_self, va_up_self, va_up_ne _ _ (by decide), va_up_self]
            by_cases e : i = (wst P.1 k).1
            · subst e
              rw [pk_uLs, pk_us, pk_us, f1, f2, f3]
              exact ⟨rfl, rfl, rfl⟩
            · rw [pk_uLn e, pk_un e, pk_un e]
              exact hw i (by omega)
  iterate 7 refine go_s rfl rfl rfl trivial ?_
  refine Go.mono (key P.2 0 none (va_up J 1 0) N G (by omega) (va_up_self _ _ _) (fun i hi => absurd hi (Nat.not_lt_zero i)) (fun i hi => va_up_ne _ _ hi) (fun _ _ _ => rfl) (fun _ _ => rfl)) fun r h' g => g
theorem c_Ta_wordCount {z : wS} (h : cW z J N G) : Do m_Ta_wordCount [.ref 7] (hC L xs J N G U p M D) (fun r h' => r = some (.int (nI z.1)) ∧ h' = hC L xs J N G U p M D) := by
  iterate 2 refine go_s rfl rfl rfl trivial ?_
  rw [h.1]
  exact go_r rfl rfl rfl trivial ⟨rfl, rfl⟩
theorem c_Ta_hasWord {z : wS} (h : cW z J N G) {k : Nat} (hk : k < 1000) : Do m_Ta_hasWord [.ref 7, .int (nI k)] (hC L xs J N G U p M D) (fun r h' => r = some (.int (b01 (k < z.1))) ∧ h' = hC L xs J N G U p M D) := by
  obtain ⟨h1, h2, h3⟩ := h
  iterate 2 refine go_s rfl rfl rfl trivial ?_
  refine go_if (fun hc => absurd hc (nI_pos (by omega))) (fun _ => ?_)
  iterate 3 refine go_s rfl rfl rfl trivial ?_
  rw [h1]
  iterate 1 refine go_s rfl rfl rfl trivial ?_
  refine go_if (fun hc => ?_) (fun hc => ?_)
  · have := (nI_leI (by omega) (by omega)).mp hc
    iterate 1 refine go_s rfl rfl rfl trivial ?_
    exact go_r rfl rfl rfl (Or.inl rfl) ⟨by rw [b01_f (by omega)], rfl⟩
  · have hlt : k < z.1 := Nat.lt_of_not_le fun q => hc ((nI_leI (by omega) (by omega)).mpr q)
    iterate 3 refine go_s rfl rfl rfl trivial ?_
    refine go_if (fun hc1 => absurd hc1 (nI_ge (a := k) (b := 48) (by omega) (by omega))) (fun _ => ?_)
    iterate 2 refine go_s rfl rfl rfl trivial ?_
    exact go_r rfl rfl rfl (Or.inr rfl) ⟨by rw [b01_t hlt], rfl⟩
theorem c_Ta_wordAt {z : wS} (h : cW z J N G) {k : Nat} (hk : k < 1000) : Do m_Ta_wordAt [.ref 7, .int (nI k)] (hC L xs J N G U p M D) (fun r h' => r = some (.long (if k < z.1 then lN (enc (z.2.2.1 k)) else 0)) ∧ h' = hC L xs J N G U p M D) := by
  have ck : (nI k).toNatClampNeg = k := nI_clamp (by omega)
  iterate 2 refine go_s rfl rfl rfl trivial ?_
  refine go_c rfl rfl rfl (c_Ta_hasWord h hk) ?_
  rintro r h1 ⟨rfl, rfl⟩
  iterate 1 refine go_s rfl rfl rfl trivial ?_
  refine go_if (fun hc => ?_) (fun hc => ?_)
  · have hn := b01_eq0.mp hc
    iterate 1 refine go_s rfl rfl rfl trivial ?_
    exact go_r rfl rfl rfl trivial ⟨by rw [if_neg hn], rfl⟩
  · have hn : k < z.1 := Classical.not_not.mp fun q => hc (b01_f q)
    have h2 := h.2.1
    iterate 3 refine go_s rfl rfl rfl trivial ?_
    refine go_s rfl rfl rfl ?_ ?_
    · exact vp_in_nI (by omega) (by omega)
    iterate 1 refine go_s rfl rfl rfl trivial ?_
    exact go_r rfl rfl rfl trivial ⟨by rw [ck, (h.2.2 k hn).1, if_pos hn], rfl⟩
theorem c_Ta_startAt {z : wS} (h : cW z J N G) {k : Nat} (hn : k < z.1) : Do m_Ta_startAt [.ref 7, .int (nI k)] (hC L xs J N G U p M D) (fun r h' => r = some (.int (nI (z.2.2.2.1 k))) ∧ h' = hC L xs J N G U p M D) := by
  have h2 := h.2.1
  have ck : (nI k).toNatClampNeg = k := nI_clamp (by omega)
  iterate 2 refine go_s rfl rfl rfl trivial ?_
  refine go_c rfl rfl rfl (c_Ta_hasWord h (k := k) (by omega)) ?_
  rintro r h1 ⟨rfl, rfl⟩
  rw [b01_t hn]
  iterate 1 refine go_s rfl rfl rfl trivial ?_
  refine go_if (fun hc => absurd hc (by decide)) (fun hc => ?_)
  iterate 3 refine go_s rfl rfl rfl trivial ?_
  refine go_s rfl rfl rfl ?_ ?_
  · exact vp_in_nI (by omega) (by omega)
  iterate 1 refine go_s rfl rfl rfl trivial ?_
  exact go_r rfl rfl rfl trivial ⟨by rw [ck, (h.2.2 k hn).2.1], rfl⟩
theorem c_Ta_sizeAt {z : wS} (h : cW z J N G) {k : Nat} (hn : k < z.1) : Do m_Ta_sizeAt [.ref 7, .int (nI k)] (hC L xs J N G U p M D) (fun r h' => r = some (.int (nI (z.2.2.2.2 k))) ∧ h' = hC L xs J N G U p M D) := by
  have h2 := h.2.1
  have ck : (nI k).toNatClampNeg = k := nI_clamp (by omega)
  iterate 2 refine go_s rfl rfl rfl trivial ?_
  refine go_c rfl rfl rfl (c_Ta_hasWord h (k := k) (by omega)) ?_
  rintro r h1 ⟨rfl, rfl⟩
  rw [b01_t hn]
  iterate 1 refine go_s rfl rfl rfl trivial ?_
  refine go_if (fun hc => absurd hc (by decide)) (fun hc => ?_)
  iterate 3 refine go_s rfl rfl rfl trivial ?_
  refine go_s rfl rfl rfl ?_ ?_
  · exact vp_in_nI (by omega) (by omega)
  iterate 1 refine go_s rfl rfl rfl trivial ?_
  exact go_r rfl rfl rfl trivial ⟨by rw [ck, (h.2.2 k hn).2.2], rfl⟩
end TAPE2
