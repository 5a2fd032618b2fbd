/-! ===== the class holds the specification's state ===== -/
def cLw (K : tx_L) (J : Nat → Int32) (G : Nat → Nat → Int64) : Prop := J 17 = nI K.1 ∧ K.1 ≤ 400 ∧ ∀ i, i < K.1 → G 16 i = lN (enc (K.2 i)) ∧ wok (K.2 i)
def cU (s : List Nat) (U : Int64) : Prop := U = lN (enc s) ∧ wok0 s
def cLs (p : Nat → Nat) (J : Nat → Int32) (D : List am_C) : Prop := ∃ n f, cLst n f p J D
def tx_c (Z : tx_Z) (J : Nat → Int32) (N : Nat → Nat → Int32) (G : Nat → Nat → Int64) (U : Int64) (p : Nat → Nat) (D : List am_C) (cp : Nat → Nat) : Prop := cP (zP Z) J N ∧ cN (zN Z) J G p D cp ∧ cXs (zX Z) J N G ∧ cXt (zX Z) G (nE (zN Z)) ∧ cA (zA Z) J N G ∧ cLw (zL Z) J G ∧ cU (zS Z) U ∧ cLs p J D
/-- what a call may make -/
def dB (cp : Nat → Nat) (D : List am_C) (cp' : Nat → Nat) (D' : List am_C) : Prop := am_sz D' + 2 * (cp 0 + cp 1 + cp 2) ≤ am_sz D + 2 * (cp' 0 + cp' 1 + cp' 2) + 5040 ∧ D'.length + (cp 0 + cp 1 + cp 2) ≤ D.length + (cp' 0 + cp' 1 + cp' 2) + 96
theorem dB.rf (cp : Nat → Nat) (D : List am_C) : dB cp D cp D := ⟨by omega, by omega⟩
def tiP (L : Nat) (xs : Nat → Int32) (M : Nat → am_C) (Z : tx_Z) (D : List am_C) (cp : Nat → Nat) (h' : List am_C) : Prop := ∃ J' N' G' U' p' D' cp', h' = hC L xs J' N' G' U' p' M D' ∧ tx_c Z J' N' G' U' p' D' cp' ∧ dB cp D cp' D'
section TI1
variable {L : Nat} {xs : Nat → Int32} {J : Nat → Int32} {N : Nat → Nat → Int32} {G : Nat → Nat → Int64} {U : Int64} {p : Nat → Nat} {M : Nat → am_C} {D : List am_C} {cp : Nat → Nat} {Z : tx_Z}
theorem cLs.kj {J' : Nat → Int32} (h : cLs p J D) (h15 : J' 15 = J 15) : cLs p J' D := by
  obtain ⟨n, f, h⟩ := h
  exact ⟨n, f, h.kj h15⟩
theorem cLw.kj {K : tx_L} {J' : Nat → Int32} {G' : Nat → Nat → Int64} (h : cLw K J G) (h1 : J' 17 = J 17) (h2 : G' 16 = G 16) : cLw K J' G' := ⟨h1.trans h.1, h.2.1, fun i hi => by rw [h2]; exact h.2.2 i hi⟩
theorem tx_c.keep {J' : Nat → Int32} {N' : Nat → Nat → Int32} {G' : Nat → Nat → Int64} (h : tx_c Z J N G U p D cp) (hJ : ∀ i, i = 0 ∨ (2 ≤ i ∧ i ≤ 9) ∨ (15 ≤ i ∧ i ≤ 17) → J' i = J i) (hN : ∀ i, i = 0 ∨ (3 ≤ i ∧ i ≤ 9) → N' i = N i) (hG : ∀ i, (1 ≤ i ∧ i ≤ 11) ∨ i = 15 ∨ i = 16 → G' i = G i) : tx_c Z J' N' G' U p D cp := by
  obtain ⟨h1, h2, h3, h4, h5, h6, h7, h8⟩ := h
  exact ⟨h1.keep (hJ 0 (by omega)) (hN 0 (by omega)), h2.keep (fun i a b => hJ i (by omega)) (fun i a b => hG i (by omega)) (fun _ _ => rfl) (fun _ _ q => q), h3.keep (hJ 8 (by omega)) (hJ 9 (by omega)) (fun i a b => hN i (by omega)) (hG 10 (by omega)), h4.keep (hG 11 (by omega)), h5.keep (hJ 16 (by omega)) (hN 9 (by omega)) (hG 15 (by omega)), h6.kj (hJ 17 (by omega)) (hG 16 (by omega)), h7, h8.kj (hJ 15 (by omega))⟩
/-- the tape is empty then -/
theorem tx_c.clr (h : tx_c Z J N G U p D cp) : tx_c (z0 Z) (va_up (va_up J 0 0) 1 0) N G U p D cp := by
  have hk : ∀ i, i ≠ 0 → i ≠ 1 → va_up (va_up J 0 0) 1 0 i = J i := fun i a b => (va_up_ne _ _ b).trans (va_up_ne _ _ a)
  obtain ⟨h1, h2, h3, h4, h5, h6, h7, h8⟩ := h
  exact ⟨⟨(va_up_ne _ _ (by decide)).trans (va_up_self _ _ _), by show 0 ≤ 96; omega, fun j hj => absurd hj (Nat.not_lt_zero j)⟩, h2.keep (fun i a b => hk i (by omega) (by omega)) (fun _ _ _ => rfl) (fun _ _ => rfl) (fun _ _ q => q), h3.keep (hk 8 (by decide) (by decide)) (hk 9 (by decide) (by decide)) (fun _ _ _ => rfl) rfl, h4, h5.keep (hk 16 (by decide) (by decide)) rfl rfl, h6.kj (hk 17 (by decide) (by decide)) rfl, h7, h8.kj (hk 15 (by decide) (by decide))⟩
theorem c_languageOf (x : Int32) : Do m_TI_languageOf [.ref 6, .int x] (hC L xs J N G U p M D) (fun r h' => ((isL x ∧ r = some (.ref (13 + 4 * x.toNatClampNeg))) ∨ (¬ isL x ∧ r = some .null)) ∧ h' = hC L xs J N G U p M D) := by
  have no : ¬ isL x → Go m_TI_languageOf 22 [some (.ref 6), some (.int x)] [] (hC L xs J N G U p M D) (fun r h' => ((isL x ∧ r = some (.ref (13 + 4 * x.toNatClampNeg))) ∨ (¬ isL x ∧ r = some .null)) ∧ h' = hC L xs J N G U p M D) := by
    intro q
    iterate 1 refine go_s rfl rfl rfl trivial ?_
    exact go_r rfl rfl rfl trivial ⟨Or.inr ⟨q, rfl⟩, rfl⟩
  iterate 2 refine go_s rfl rfl rfl trivial ?_
  refine go_if (fun hc => no fun q => Int32.not_lt.mpr q.1 hc) (fun hc => ?_)
  iterate 5 refine go_s rfl rfl rfl trivial ?_
  refine go_if (fun hc1 => no fun q => Int32.not_lt.mpr hc1 q.2) (fun hc1 => ?_)
  have hq : isL x := ⟨Int32.not_lt.mp hc, Int32.not_le.mp hc1⟩
  obtain ⟨l, hl, rfl⟩ := isL_nat hq
  have cl : (nI l).toNatClampNeg = l := nI_clamp (by omega)
  iterate 3 refine go_s rfl rfl rfl trivial ?_
  refine go_s rfl rfl rfl ?_ ?_
  · exact vp_in_nI (by omega) (by omega)
  rw [cl]
  rcases (by omega : l = 0 ∨ l = 1 ∨ l = 2) with rfl | rfl | rfl
  · iterate 1 refine go_s rfl rfl rfl trivial ?_
    exact go_r rfl rfl rfl trivial ⟨Or.inl ⟨hq, rfl⟩, rfl⟩
  · iterate 1 refine go_s rfl rfl rfl trivial ?_
    exact go_r rfl rfl rfl trivial ⟨Or.inl ⟨hq, rfl⟩, rfl⟩
  · iterate 1 refine go_s rfl rfl rfl trivial ?_
    exact go_r rfl rfl rfl trivial ⟨Or.inl ⟨hq, rfl⟩, rfl⟩
theorem c_TI_type (h : tx_c Z J N G U p D cp) (v : Int64) (c : Int32) : Do m_TI_type [.ref 6, .long v, .int c] (hC L xs J N G U p M D) (fun r h' => r = some (.int (spType Z v c).1) ∧ tiP L xs M (spType Z v c).2 D cp h') := by
  have bad : ¬ (1 ≤ c ∧ c ≤ 8) → Go m_TI_type 11 [some (.ref 6), some (.long v), none, some (.int c)] [] (hC L xs J N G U p M D) (fun r h' => r = some (.int (spType Z v c).1) ∧ tiP L xs M (spType Z v c).2 D cp h') := by
    intro q
    rw [spType, ifp_f q]
    iterate 1 refine go_s rfl rfl rfl trivial ?_
    exact go_r rfl rfl rfl trivial ⟨rfl, J, N, G, U, p, D, cp, rfl, h, dB.rf _ _⟩
  have hP := h.1
  have h96 := hP.2.1
  iterate 3 refine go_s rfl rfl rfl trivial ?_
  refine go_if (fun q1 => bad fun q => absurd q1 (Int32.not_lt.mpr q.1)) (fun q1 => ?_)
  iterate 3 refine go_s rfl rfl rfl trivial ?_
  refine go_if (fun q2 => ?_) (fun q2 => bad fun q => q2 q.2)
  have h1c : (1 : Int32) ≤ c := Int32.not_lt.mp q1
  have hc0 : ¬ c < 0 := fun q => q1 (Int32.lt_trans q (by decide))
  obtain ⟨k, hk, rfl⟩ := nI_of hc0
  have hk8 : k ≤ 8 := (nI_leI (b := 8) hk (by omega)).mp q2
  have hk1 : 1 ≤ k := (nI_leI (a := 1) (by omega) hk).mp h1c
  have ck : (nI k).toNatClampNeg = k := nI_clamp hk
  rw [spType, ifp_t ⟨h1c, q2⟩, ck]
  iterate 4 refine go_s rfl rfl rfl trivial ?_
  refine go_c rfl rfl rfl (c_Ta_append hP v hk1 hk8) ?_
  rintro r h3 (⟨g1, rfl, rfl⟩ | ⟨g1, rfl, J', N', rfl, g2, g3, g4⟩)
  · rw [if_pos g1]
    iterate 1 refine go_s rfl rfl rfl trivial ?_
    refine go_if (fun _ => ?_) (fun hc => absurd rfl hc)
    iterate 1 refine go_s rfl rfl rfl trivial ?_
    exact go_r rfl rfl rfl trivial ⟨rfl, J, N, G, U, p, D, cp, rfl, h, dB.rf _ _⟩
  · rw [if_neg (show ¬ 96 < (zP Z).2 + k by omega)]
    iterate 1 refine go_s rfl rfl rfl trivial ?_
    refine go_if (fun hc => absurd hc (by decide)) (fun _ => ?_)
    iterate 2 refine go_s rfl rfl rfl trivial ?_
    refine go_c rfl rfl rfl (c_Ta_length g2) ?_
    rintro r h3 ⟨rfl, rfl⟩
    iterate 1 refine go_s rfl rfl rfl trivial ?_
    obtain ⟨h1, h2, h3, h4, h5, h6, h7, h8⟩ := h
    exact go_r rfl rfl rfl trivial ⟨rfl, J', N', G, U, p, D, cp, rfl, ⟨g2, h2.keep (fun i a b => g3 i (by omega)) (fun _ _ _ => rfl) (fun _ _ => rfl) (fun _ _ q => q), h3.keep (g3 8 (by decide)) (g3 9 (by decide)) (fun i a b => g4 i (by omega)) rfl, h4, h5.keep (g3 16 (by decide)) (g4 9 (by decide)) rfl, h6.kj (g3 17 (by decide)) rfl, h7, h8.kj (g3 15 (by decide))⟩, dB.rf _ _⟩
theorem c_TI_remove (h : tx_c Z J N G U p D cp) (x : Int32) : Do m_TI_remove [.ref 6, .int x] (hC L xs J N G U p M D) (fun r h' => r = some (.int (spRemove Z x).1) ∧ tiP L xs M (spRemove Z x).2 D cp h') := by
  obtain ⟨h1, h2, h3, h4, h5, h6, h7, h8⟩ := id h
  iterate 3 refine go_s rfl rfl rfl trivial ?_
  refine go_c rfl rfl rfl (c_takeAway h3 x) ?_
  rintro r h0 (⟨g1, rfl, rfl⟩ | ⟨g1, rfl, N', rfl, g2, g3⟩)
  · rw [spRemove, ifp_f g1]
    iterate 1 refine go_s rfl rfl rfl trivial ?_
    refine go_if (fun _ => ?_) (fun hc => absurd rfl hc)
    iterate 1 refine go_s rfl rfl rfl trivial ?_
    exact go_r rfl rfl rfl trivial ⟨rfl, J, N, G, U, p, D, cp, rfl, h, dB.rf _ _⟩
  · rw [spRemove, ifp_t g1]
    iterate 1 refine go_s rfl rfl rfl trivial ?_
    refine go_if (fun hc => absurd hc (by decide)) (fun _ => ?_)
    iterate 2 refine go_s rfl rfl rfl trivial ?_
    refine go_r rfl rfl rfl trivial ⟨rfl, J, N', G, U, p, D, cp, rfl, ⟨h1.keep rfl (g3 0 (by decide)), h2, g2, fun t ht l hl q hq => ?_, h5.keep rfl (g3 9 (by decide)) rfl, h6, h7, h8⟩, dB.rf _ _⟩
    have hl' : va_up (xlg (zX Z)) x.toNatClampNeg none t = some l := hl
    by_cases e : t = x.toNatClampNeg
    · rw [e, va_up_self] at hl'; cases hl'
    · rw [va_up_ne _ _ e] at hl'
      exact h4 t ht l hl' q hq
theorem c_TI_texts (h : tx_c Z J N G U p D cp) : Do m_TI_texts [.ref 6] (hC L xs J N G U p M D) (fun r h' => r = some (.int (nI (xhere (zX Z)))) ∧ h' = hC L xs J N G U p M D) := by
  iterate 2 refine go_s rfl rfl rfl trivial ?_
  refine go_c rfl rfl rfl (c_countTexts h.2.2.1) ?_
  rintro r h0 ⟨rfl, rfl⟩
  exact go_r rfl rfl rfl trivial ⟨rfl, rfl⟩
theorem c_TI_answer (h : tx_c Z J N G U p D cp) (x : Int32) : Do m_TI_answer [.ref 6, .int x] (hC L xs J N G U p M D) (fun r h' => r = some (.int (ansS (zA Z).1 (zA Z).2.1 x)) ∧ h' = hC L xs J N G U p M D) := by
  iterate 3 refine go_s rfl rfl rfl trivial ?_
  refine go_c rfl rfl rfl (c_textAt h.2.2.2.2.1 x) ?_
  rintro r h0 ⟨rfl, rfl⟩
  exact go_r rfl rfl rfl trivial ⟨rfl, rfl⟩
theorem c_TI_score (h : tx_c Z J N G U p D cp) (x : Int32) : Do m_TI_score [.ref 6, .int x] (hC L xs J N G U p M D) (fun r h' => r = some (.long (scoS (zA Z).1 (zA Z).2.2 x)) ∧ h' = hC L xs J N G U p M D) := by
  iterate 3 refine go_s rfl rfl rfl trivial ?_
  refine go_c rfl rfl rfl (c_weightAt h.2.2.2.2.1 x) ?_
  rintro r h0 ⟨rfl, rfl⟩
  exact go_r rfl rfl rfl trivial ⟨rfl, rfl⟩
theorem c_TI_place (h : tx_c Z J N G U p D cp) (x q k : Int32) : Do m_TI_place [.ref 6, .int x, .int q, .int k] (hC L xs J N G U p M D) (fun r h' => r = some (.int (spPlace Z x q k)) ∧ h' = hC L xs J N G U p M D) := by
  have h3 := h.2.2.1
  iterate 4 refine go_s rfl rfl rfl trivial ?_
  refine go_c rfl rfl rfl (c_hasPlace h3 x q) ?_
  rintro r h0 ⟨rfl, rfl⟩
  iterate 1 refine go_s rfl rfl rfl trivial ?_
  refine go_if (fun hc => ?_) (fun hc => ?_)
  · have hq : plQ (zX Z) x q := Classical.not_not.mp fun q => hc (b01_f q)
    iterate 2 refine go_s rfl rfl rfl trivial ?_
    refine go_if (fun hc1 => ?_) (fun hc1 => ?_)
    · iterate 3 refine go_s rfl rfl rfl trivial ?_
      refine go_if (fun hc2 => ?_) (fun hc2 => ?_)
      · iterate 1 refine go_s rfl rfl rfl trivial ?_
        refine go_r rfl rfl rfl trivial ⟨?_, rfl⟩
        rw [spPlace, ifp_f]
        rintro ⟨-, -, -, a, b⟩
        rw [Int32.le_iff_toInt_le] at a b
        have e0 : (0 : Int32).toInt = 0 := by decide
        have e1 : (1 : Int32).toInt = 1 := by decide
        rw [e0] at a
        rw [e1] at b
        rcases (by omega : k.toInt = 0 ∨ k.toInt = 1) with g | g
        · exact hc1 (Int32.toInt_inj.mp (g.trans e0.symm))
        · exact hc2 (Int32.toInt_inj.mp (g.trans e1.symm))
      · have e1 : k = 1 := Classical.not_not.mp hc2
        subst e1
        iterate 4 refine go_s rfl rfl rfl trivial ?_
        refine go_c rfl rfl rfl (c_sizeOf h3 hq) ?_
        rintro r h0 ⟨rfl, rfl⟩
        iterate 1 refine go_s rfl rfl rfl trivial ?_
        refine go_r rfl rfl rfl trivial ⟨?_, rfl⟩
        rw [spPlace, ifp_t ⟨hq.1, hq.2.1, hq.2.2, by decide, by decide⟩, ifp_f (by decide)]
    · have e1 : k = 0 := Classical.not_not.mp hc1
      subst e1
      iterate 4 refine go_s rfl rfl rfl trivial ?_
      refine go_c rfl rfl rfl (c_startOf h3 hq) ?_
      rintro r h0 ⟨rfl, rfl⟩
      refine go_r rfl rfl rfl trivial ⟨?_, rfl⟩
      rw [spPlace, ifp_t ⟨hq.1, hq.2.1, hq.2.2, by decide, by decide⟩, ifp_t rfl]
  · have hq : ¬ plQ (zX Z) x q := b01_eq0.mp (Classical.not_not.mp hc)
    iterate 1 refine go_s rfl rfl rfl trivial ?_
    refine go_r rfl rfl rfl trivial ⟨?_, rfl⟩
    rw [spPlace, ifp_f (fun g => hq ⟨g.1, g.2.1, g.2.2.1⟩)]
theorem c_TI_stems (h : tx_c Z J N G U p D cp) (x : Int32) : Do m_TI_stems [.ref 6, .int x] (hC L xs J N G U p M D) (fun r h' => r = some (.int (spStems Z x)) ∧ h' = hC L xs J N G U p M D) := by
  iterate 2 refine go_s rfl rfl rfl trivial ?_
  refine go_c rfl rfl rfl (c_languageOf x) ?_
  rintro r h0 ⟨⟨hq, rfl⟩ | ⟨hq, rfl⟩, rfl⟩
  · obtain ⟨l, hl, rfl⟩ := isL_nat hq
    have cl : (nI l).toNatClampNeg = l := nI_clamp (by omega)
    iterate 4 refine go_s rfl rfl rfl trivial ?_
    refine go_c rfl rfl rfl (c_Sh_countStems h.2.2.1 h.2.2.2.1 h.2.1.eok hl) ?_
    rintro r h0 ⟨rfl, rfl⟩
    refine go_r rfl rfl rfl trivial ⟨?_, rfl⟩
    rw [spStems, ifp_t hq, cl]
  · iterate 3 refine go_s rfl rfl rfl trivial ?_
    refine go_r rfl rfl rfl trivial ⟨?_, rfl⟩
    rw [spStems, ifp_f hq]
theorem c_tell (h : tx_c Z J N G U p D cp) {w : List Nat} (hw : wok0 w) : Do m_TI_tell [.ref 6, .long (lN (enc w))] (hC L xs J N G U p M D) (fun r h' => r = some (.int (nI w.length)) ∧ h' = hC L xs J N G (lN (enc w)) p M D ∧ tx_c (zP Z, zN Z, zX Z, zA Z, zL Z, w) J N G (lN (enc w)) p D cp) := by
  obtain ⟨h1, h2, h3, h4, h5, h6, h7, h8⟩ := h
  iterate 4 refine go_s rfl rfl rfl trivial ?_
  refine go_c rfl rfl rfl (c_lengthOf _ hw) ?_
  rintro r h0 ⟨rfl, rfl⟩
  exact go_r rfl rfl rfl trivial ⟨rfl, rfl, h1, h2, h3, h4, h5, h6, ⟨rfl, hw⟩, h8⟩
theorem c_TI_word (h : tx_c Z J N G U p D cp) (x : Int32) : Do m_TI_word [.ref 6, .int x] (hC L xs J N G U p M D) (fun r h' => r = some (.int (spWord Z x).1) ∧ tiP L xs M (spWord Z x).2 D cp h') := by
  obtain ⟨l1, l2, l3⟩ := h.2.2.2.2.2.1
  have wa : Do m_Li_wordAt [.ref 42, .int x] (hC L xs J N G U p M D) (fun r h' => ((¬ (0 ≤ x ∧ x < nI (zL Z).1) ∧ r = some (.long 0)) ∨ (0 ≤ x ∧ x < nI (zL Z).1) ∧ r = some (.long (lN (enc ((zL Z).2 x.toNatClampNeg)))) ∧ wok ((zL Z).2 x.toNatClampNeg)) ∧ h' = hC L xs J N G U p M D) := by
    have no : ¬ (0 ≤ x ∧ x < nI (zL Z).1) → Go m_Li_wordAt 30 [some (.ref 42), some (.int x)] [] (hC L xs J N G U p M D) (fun r h' => ((¬ (0 ≤ x ∧ x < nI (zL Z).1) ∧ r = some (.long 0)) ∨ (0 ≤ x ∧ x < nI (zL Z).1) ∧ r = some (.long (lN (enc ((zL Z).2 x.toNatClampNeg)))) ∧ wok ((zL Z).2 x.toNatClampNeg)) ∧ h' = hC L xs J N G U p M D) := by
      intro q
      iterate 1 refine go_s rfl rfl rfl trivial ?_
      exact go_r rfl rfl rfl trivial ⟨Or.inl ⟨q, rfl⟩, rfl⟩
    iterate 2 refine go_s rfl rfl rfl trivial ?_
    refine go_if (fun hc => no fun q => Int32.not_lt.mpr q.1 hc) (fun hc => ?_)
    iterate 3 refine go_s rfl rfl rfl trivial ?_
    rw [l1]
    iterate 1 refine go_s rfl rfl rfl trivial ?_
    refine go_if (fun hc1 => no fun q => Int32.not_lt.mpr hc1 q.2) (fun hc1 => ?_)
    obtain ⟨t, ht, rfl⟩ := nI_of hc
    have hlt : t < (zL Z).1 := Nat.lt_of_not_le fun q => hc1 ((nI_leI (by omega) (by omega)).mpr q)
    have ct : (nI t).toNatClampNeg = t := nI_clamp ht
    iterate 5 refine go_s rfl rfl rfl trivial ?_
    refine go_if (fun hc2 => absurd hc2 (nI_ge (a := t) (b := 400) (by omega) (by omega))) (fun _ => ?_)
    iterate 3 refine go_s rfl rfl rfl trivial ?_
    refine go_s rfl rfl rfl ?_ ?_
    · exact vp_in_nI (by omega) (by omega)
    iterate 1 refine go_s rfl rfl rfl trivial ?_
    exact go_r rfl rfl rfl trivial ⟨Or.inr ⟨⟨Int32.not_lt.mp hc, Int32.not_le.mp hc1⟩, by rw [ct, (l3 t hlt).1], by rw [ct]; exact (l3 t hlt).2⟩, rfl⟩
  iterate 3 refine go_s rfl rfl rfl trivial ?_
  refine go_c rfl rfl rfl wa ?_
  rintro r h0 ⟨⟨hq, rfl⟩ | ⟨hq, rfl, hwk⟩, rfl⟩
  · rw [spWord, ifp_f hq]
    iterate 5 refine go_s rfl rfl rfl trivial ?_
    refine go_if (fun hc => absurd ((lg_cmp_eq _ _).mpr rfl) hc) (fun _ => ?_)
    iterate 2 refine go_s rfl rfl rfl trivial ?_
    exact go_r rfl rfl rfl trivial ⟨rfl, J, N, G, U, p, D, cp, rfl, h, dB.rf _ _⟩
  · rw [spWord, ifp_t hq]
    iterate 5 refine go_s rfl rfl rfl trivial ?_
    refine go_if (fun _ => ?_) (fun hc => ?_)
    · iterate 2 refine go_s rfl rfl rfl trivial ?_
      refine go_c rfl rfl rfl (c_tell h hwk.o) ?_
      rintro r h0 ⟨rfl, rfl, g⟩
      exact go_r rfl rfl rfl trivial ⟨rfl, J, N, G, _, p, D, cp, rfl, g, dB.rf _ _⟩
    · have := (encZ hwk.o).mp ((lg_cmp_eq _ _).mp (Classical.not_not.mp hc))
      have h0 := hwk.1
      rw [this] at h0
      exact absurd h0 (by decide)
theorem c_TI_at (h : tx_c Z J N G U p D cp) (x : Int32) : Do m_TI_at [.ref 6, .int x] (hC L xs J N G U p M D) (fun r h' => r = some (.int (atS (zS Z) x)) ∧ h' = hC L xs J N G U p M D) := by
  obtain ⟨u1, u2⟩ := h.2.2.2.2.2.2.1
  subst u1
  have u12 := u2.1
  have no : ¬ (0 ≤ x ∧ x < nI (zS Z).length) → Go m_TI_at 26 [some (.ref 6), some (.int x)] [] (hC L xs J N G (lN (enc (zS Z))) p M D) (fun r h' => r = some (.int (atS (zS Z) x)) ∧ h' = hC L xs J N G (lN (enc (zS Z))) p M D) := by
    intro q
    iterate 1 refine go_s rfl rfl rfl trivial ?_
    exact go_r rfl rfl rfl trivial ⟨by rw [atS, if_neg q], rfl⟩
  iterate 2 refine go_s rfl rfl rfl trivial ?_
  refine go_if (fun hc => no fun q => Int32.not_lt.mpr q.1 hc) (fun hc => ?_)
  iterate 3 refine go_s rfl rfl rfl trivial ?_
  refine go_c rfl rfl rfl (c_lengthOf _ u2) ?_
  rintro r h0 ⟨rfl, rfl⟩
  iterate 1 refine go_s rfl rfl rfl trivial ?_
  refine go_if (fun hc1 => no fun q => Int32.not_lt.mpr hc1 q.2) (fun hc1 => ?_)
  obtain ⟨t, ht, rfl⟩ := nI_of hc
  have hlt : t < (zS Z).length := Nat.lt_of_not_le fun q => hc1 ((nI_leI (by omega) (by omega)).mpr q)
  have ct : (nI t).toNatClampNeg = t := nI_clamp ht
  iterate 3 refine go_s rfl rfl rfl trivial ?_
  refine go_c rfl rfl rfl (c_symbolAt _ u2 hlt) ?_
  rintro r h0 ⟨rfl, rfl⟩
  iterate 1 refine go_s rfl rfl rfl trivial ?_
  refine go_r rfl rfl rfl trivial ⟨?_, rfl⟩
  rw [atS, if_pos ⟨Int32.not_lt.mp hc, Int32.not_le.mp hc1⟩, ct]
/-- the tape's words, and the empty tape -/
theorem c_takeFirst (h : tx_c Z J N G U p D cp) : Do m_TI_takeFirstWord [.ref 6] (hC L xs J N G U p M D) (fun r h' => r = some (.long (if 0 < (zw Z).1 then lN (enc ((zw Z).2.2.1 0)) else 0)) ∧ ∃ J' N' G', h' = hC L xs J' N' G' U p M D ∧ tx_c (z0 Z) J' N' G' U p D cp) := by
  iterate 2 refine go_s rfl rfl rfl trivial ?_
  refine go_c rfl rfl rfl (c_Ta_split h.1) ?_
  rintro r h0 ⟨rfl, J1, N1, G1, rfl, g1, g2, g3, g4⟩
  have h1 : tx_c Z J1 N1 G1 U p D cp := h.keep (fun i hi => g2 i (by omega)) (fun i hi => g3 i (by omega) (by omega)) (fun i hi => g4 i (by omega))
  iterate 4 refine go_s rfl rfl rfl trivial ?_
  refine go_c rfl rfl rfl (c_Ta_wordAt g1 (k := 0) (by omega)) ?_
  rintro r h0 ⟨rfl, rfl⟩
  iterate 3 refine go_s rfl rfl rfl trivial ?_
  refine go_c rfl rfl rfl (c_Ta_clear J1 N1 G1) ?_
  rintro r h0 ⟨rfl, rfl⟩
  iterate 1 refine go_s rfl rfl rfl trivial ?_
  exact go_r rfl rfl rfl trivial ⟨rfl, _, N1, G1, rfl, h1.clr⟩
theorem zw_wok (Z : tx_Z) {i : Nat} (hi : i < (zw Z).1) : wok ((zw Z).2.2.1 i) := wst_wok _ _ i hi
theorem c_TI_stem (h : tx_c Z J N G U p D cp) (x : Int32) : Do m_TI_stem [.ref 6, .int x] (hC L xs J N G U p M D) (fun r h' => r = some (.int (spStem Z x).1) ∧ tiP L xs M (spStem Z x).2 D cp h') := by
  iterate 2 refine go_s rfl rfl rfl trivial ?_
  refine go_c rfl rfl rfl (c_languageOf x) ?_
  rintro r h0 ⟨⟨hq, rfl⟩ | ⟨hq, rfl⟩, rfl⟩
  · obtain ⟨l, hl, rfl⟩ := isL_nat hq
    have cl : (nI l).toNatClampNeg = l := nI_clamp (by omega)
    rw [spStem, ifp_t hq, cl]
    iterate 4 refine go_s rfl rfl rfl trivial ?_
    refine go_c rfl rfl rfl (c_takeFirst h) ?_
    rintro r h0 ⟨rfl, J1, N1, G1, rfl, h1⟩
    by_cases hz : (zw Z).1 = 0
    · rw [if_pos hz, if_neg (show ¬ 0 < (zw Z).1 by omega)]
      iterate 5 refine go_s rfl rfl rfl trivial ?_
      refine go_if (fun hc => absurd ((lg_cmp_eq _ _).mpr rfl) hc) (fun _ => ?_)
      iterate 1 refine go_s rfl rfl rfl trivial ?_
      exact go_r rfl rfl rfl trivial ⟨rfl, J1, N1, G1, U, p, D, cp, rfl, h1, dB.rf _ _⟩
    · rw [if_neg hz, if_pos (show 0 < (zw Z).1 by omega)]
      have hwk := zw_wok Z (i := 0) (by omega)
      have hq2 := h1.2.1.q (L := L) (xs := xs) (N := N1) (U := U) (M := M) hl
      obtain ⟨-, q0⟩ := id hq2
      obtain ⟨eB, iB, sB, capB, feB, fiB, fsB, hoB, hdB⟩ := q0
      have hst := stemF_ok _ _ hwk hdB.2.2.2.2.2.2
      iterate 5 refine go_s rfl rfl rfl trivial ?_
      refine go_if (fun _ => ?_) (fun hc => ?_)
      · iterate 3 refine go_s rfl rfl rfl trivial ?_
        refine go_c rfl rfl (call_v rfl hoB.1 (by omega) rfl rfl) (c_La_stemOf (by omega) hoB hdB hwk.o) ?_
        rintro r h0 ⟨rfl, rfl⟩
        refine go_c rfl rfl rfl (c_tell h1 hst.o) ?_
        rintro r h0 ⟨rfl, rfl, g⟩
        exact go_r rfl rfl rfl trivial ⟨rfl, J1, N1, G1, _, p, D, cp, rfl, g, dB.rf _ _⟩
      · have := (encZ hwk.o).mp ((lg_cmp_eq _ _).mp (Classical.not_not.mp hc))
        have h0 := hwk.1
        rw [this] at h0
        exact absurd h0 (by decide)
  · rw [spStem, ifp_f hq]
    iterate 4 refine go_s rfl rfl rfl trivial ?_
    exact go_r rfl rfl rfl trivial ⟨rfl, J, N, G, U, p, D, cp, rfl, h, dB.rf _ _⟩
end TI1
