/-! ===== the class reads a question: parts, rows ===== -/
def paC (P : tx_P) (row : Nat) (Q : tx_Q) (J0 : Nat → Int32) (G0 : Nat → Nat → Int64) (p0 : Nat → Nat) (D0 : List am_C) (L : Nat) (xs : Nat → Int32) (N : Nat → Nat → Int32) (U : Int64) (M : Nat → am_C) (z : Nat ⊕ (Nat × tx_q × Nat × (Nat → List Nat))) (r : Option Value) (h' : List am_C) : Prop := ∃ J' G' p' D', h' = hC L xs J' N G' U p' M D' ∧ match z with
  | .inl g => r = some (.int 0) ∧ qF g J0 G0 p0 D0 J' G' p' D'
  | .inr y => r = some (.int 1) ∧ (∃ f, qR y.1 row (Q.1 + 1, va_up Q.2.1 Q.1 y.2.1, y.2.2.1, y.2.2.2) f J0 G0 p0 D0 J' G' p' D') ∧ bnd P y.2.2.1 y.1 ∧ y.1 ≤ P.2 ∧ Q.1 + 1 ≤ y.2.2.1
def quC (P : tx_P) (J0 : Nat → Int32) (G0 : Nat → Nat → Int64) (p0 : Nat → Nat) (D0 : List am_C) (L : Nat) (xs : Nat → Int32) (N : Nat → Nat → Int32) (U : Int64) (M : Nat → am_C) (z : Nat ⊕ (tx_Q × Nat)) (r : Option Value) (h' : List am_C) : Prop := ∃ J' G' p' D', h' = hC L xs J' N G' U p' M D' ∧ match z with
  | .inl g => r = some (.int (nI g)) ∧ qF g J0 G0 p0 D0 J' G' p' D'
  | .inr y => r = some (.int (-1)) ∧ ∃ f pl row, qR pl row y.1 f J0 G0 p0 D0 J' G' p' D'
section QREAD2
variable {L : Nat} {xs : Nat → Int32} {J : Nat → Int32} {N : Nat → Nat → Int32} {G : Nat → Nat → Int64} {U : Int64} {p : Nat → Nat} {M : Nat → am_C} {D : List am_C} {P : tx_P} {J0 : Nat → Int32} {G0 : Nat → Nat → Int64} {p0 : Nat → Nat} {D0 : List am_C}
theorem c_Qu_readPhrase {pl row : Nat} {neg : Bool} {Q : tx_Q} {fo : Nat → Nat} (hP0 : cP P J0 N) (hp : pl ≤ P.2) (hbd : bnd P Q.2.2.1 pl) (hQ : Q.1 ≤ Q.2.2.1) (hs : qR pl row Q fo J0 G0 p0 D0 J G p D) : Do m_Qu_readPhrase [.ref 34, .int (b01 (neg = true))] (hC L xs J N G U p M D) (phC P row neg Q.2.2.1 Q J0 G0 p0 D0 L xs N U M (phF P Q.2.2.1 97 pl Q.2.2.1 Q.2.2.2)) := by
  iterate 2 refine go_s rfl rfl rfl trivial ?_
  rw [hs.2.2.1]
  iterate 3 refine go_s rfl rfl rfl trivial ?_
  exact l_cp7 (np := Q.1) (ps := Q.2.1) hP0 hQ 97 pl Q.2.2.1 Q.2.2.2 fo none none J G p D (Nat.le_refl _) hp (Nat.le_refl _) hbd hs
theorem l_cp36 {pl row : Nat} {neg : Bool} {Q : tx_Q} {fo : Nat → Nat} (hP0 : cP P J0 N) (hp : pl ≤ P.2) (hbd : bnd P Q.2.2.1 pl) (hQ : Q.1 ≤ Q.2.2.1) (hs : qR pl row Q fo J0 G0 p0 D0 J G p D) : Go m_Qu_readPart 36 [some (.ref 34), some (.int (b01 (neg = true))), none, none, none] [] (hC L xs J N G U p M D) (paC P row Q J0 G0 p0 D0 L xs N U M (paG P pl row neg Q.2.2.1 Q.2.2.2)) := by
  have h96 := hP0.2.1
  have h48 := hs.2.2.2.2.1
  have hP := hs.cP hP0
  iterate 4 refine go_s rfl rfl rfl trivial ?_
  rw [hs.1]
  refine go_c rfl rfl rfl (c_Ta_symbolAt hP (k := pl) (by omega)) ?_
  rintro r h3 ⟨rfl, rfl⟩
  iterate 2 refine go_s rfl rfl rfl trivial ?_
  refine go_if (fun hc => ?_) (fun hc => ?_)
  · have h34 : ¬ sy P pl = 34 := fun q => hc ((symI_eq (c := 34) hP.lt (by decide)).mpr q)
    rw [paG, if_neg h34]
    iterate 1 refine go_s rfl rfl rfl trivial ?_
    refine go_c rfl rfl rfl (c_Qu_readWord hP hs.1 hp) ?_
    rintro r h3 (⟨hw, rfl, rfl⟩ | ⟨hw, rfl, rfl⟩)
    · rw [if_neg (show ¬ wl P pl = 0 by omega), if_pos hw]
      iterate 5 refine go_s rfl rfl rfl trivial ?_
      refine go_if (fun hc1 => absurd ((lg_cmp_eq _ _).mpr rfl) hc1) (fun _ => ?_)
      iterate 1 refine go_s rfl rfl rfl trivial ?_
      exact go_r rfl rfl rfl (Or.inl rfl) ⟨_, G, p, D, rfl, rfl, (hs.mv (pl' := pl + 12)).bad rfl (by omega) (by omega)⟩
    · iterate 5 refine go_s rfl rfl rfl trivial ?_
      by_cases hz : wl P pl = 0
      · rw [if_pos hz]
        refine go_if (fun hc1 => absurd ((lg_cmp_eq _ _).mpr ((wrd_zero hw).mpr hz)) hc1) (fun _ => ?_)
        iterate 1 refine go_s rfl rfl rfl trivial ?_
        exact go_r rfl rfl rfl (Or.inl rfl) ⟨_, G, p, D, rfl, rfl, (hs.mv (pl' := pl + wl P pl)).bad (by omega) (by omega) (by omega)⟩
      · rw [if_neg hz, if_neg (show ¬ 12 < wl P pl by omega)]
        obtain ⟨bn1, bn2, bn3⟩ := hbd.wd (by omega)
        have hwl := wl_le hp
        refine go_if (fun _ => ?_) (fun hc1 => absurd ((wrd_zero hw).mp ((lg_cmp_eq _ _).mp (Classical.not_not.mp hc1))) hz)
        have hs1 : qR (pl + wl P pl) row Q fo J0 G0 p0 D0 (va_up J 12 (nI (pl + wl P pl))) G p D := hs.mv
        have hP1 := hs1.cP hP0
        iterate 4 refine go_s rfl rfl rfl trivial ?_
        rw [show va_up J 12 (nI (pl + wl P pl)) 12 = nI (pl + wl P pl) from va_up_self _ _ _]
        refine go_c rfl rfl rfl (c_Ta_symbolAt hP1 (k := pl + wl P pl) (by omega)) ?_
        rintro r h3 ⟨rfl, rfl⟩
        -- the part of a kind, then the word
        have tail : ∀ (k pl2 : Nat) (J2 : Nat → Int32), k < 2 → qR pl2 row Q fo J0 G0 p0 D0 J2 G p D → bnd P (Q.2.2.1 + 1) pl2 → pl2 ≤ P.2 → Go m_Qu_readPart 119 [some (.ref 34), some (.int (b01 (neg = true))), some (.long (lN (enc (wrd P pl (wl P pl))))), none, some (.int (nI k))] [] (hC L xs J2 N G U p M D) (paC P row Q J0 G0 p0 D0 L xs N U M (.inr (pl2, (row, k, neg, Q.2.2.1, 1), Q.2.2.1 + 1, va_up Q.2.2.2 Q.2.2.1 (wrd P pl (wl P pl))))) := by
          intro k pl2 J2 hk hs2 hb2 hp2
          iterate 3 refine go_s rfl rfl rfl trivial ?_
          change Go m_Qu_readPart 126 _ [.ref (D.length + 70), .ref 35] (hC L xs J2 N G U p M (D ++ [.inr (9, [.null, .int 0, .int 0, .int 0, .int 0])])) _
          have hgp : am_get (hC L xs J2 N G U p M (D ++ [.inr (9, [.null, .int 0, .int 0, .int 0, .int 0])])) (D.length + 70) = some (.inr (9, [.null, .int 0, .int 0, .int 0, .int 0])) := get_push D (.inr (9, [.null, .int 0, .int 0, .int 0, .int 0]))
          have hset : am_set (hC L xs J2 N G U p M (D ++ [.inr (9, [.null, .int 0, .int 0, .int 0, .int 0])])) (D.length + 70) (.inr (9, [.ref (kR k), .int (b01 (neg = true)), .int (nI row), .int (nI Q.2.2.1), .int 1])) = hC L xs J2 N G U p M (D ++ [.inr (9, qob (row, k, neg, Q.2.2.1, 1))]) := by
            show hC L xs J2 N G U p M (am_set (D ++ [.inr (9, [.null, .int 0, .int 0, .int 0, .int 0])]) D.length _) = _
            rw [set_push]
            rfl
          have last : Go m_Qu_readPart 154 [some (.ref 34), some (.int (b01 (neg = true))), some (.long (lN (enc (wrd P pl (wl P pl))))), none, some (.int (nI k))] [.ref (D.length + 70), .ref 35] (hC L xs J2 N G U p M (D ++ [.inr (9, qob (row, k, neg, Q.2.2.1, 1))])) (paC P row Q J0 G0 p0 D0 L xs N U M (.inr (pl2, (row, k, neg, Q.2.2.1, 1), Q.2.2.1 + 1, va_up Q.2.2.2 Q.2.2.1 (wrd P pl (wl P pl))))) := by
            refine go_c rfl rfl rfl (c_addObj (q := (row, k, neg, Q.2.2.1, 1)) hs2 (by omega)) ?_
            rintro r h3 ⟨rfl, J', p', D', f', rfl, hs3⟩
            iterate 3 refine go_s rfl rfl rfl trivial ?_
            refine go_c rfl rfl rfl (c_seek hs3.2.2.1 (show Q.2.2.1 < 48 by omega) (lN (enc (wrd P pl (wl P pl))))) ?_
            rintro r h3 ⟨rfl, rfl⟩
            have hs4 := hs3.word (w := wrd P pl (wl P pl)) (show Q.2.2.1 < 48 by omega)
            iterate 1 refine go_s rfl rfl rfl trivial ?_
            exact go_r rfl rfl rfl (Or.inr rfl) ⟨_, _, p', D', rfl, rfl, ⟨f', hs4⟩, hb2, hp2, by show Q.1 + 1 ≤ Q.2.2.1 + 1; omega⟩
          iterate 1 refine go_s rfl rfl rfl trivial ?_
          rcases (by omega : k = 0 ∨ k = 1) with rfl | rfl
          · iterate 2 refine go_s rfl rfl rfl trivial ?_
            refine go_if (fun _ => ?_) (fun hc1 => absurd rfl hc1)
            iterate 4 refine go_s rfl rfl rfl trivial ?_
            rw [hs2.2.1]
            iterate 2 refine go_s rfl rfl rfl trivial ?_
            rw [hs2.2.2.1]
            iterate 1 refine go_s rfl rfl rfl trivial ?_
            refine go_c rfl rfl rfl (c_Pa_init (kd := 1) hgp (b01_g _)) ?_
            rintro r h3 ⟨rfl, rfl⟩
            rw [show (1 : Nat) = kR 0 from rfl] at last ⊢
            rw [hset]
            exact last
          · iterate 2 refine go_s rfl rfl rfl trivial ?_
            refine go_if (fun hc1 => absurd hc1 (by decide)) (fun _ => ?_)
            iterate 5 refine go_s rfl rfl rfl trivial ?_
            rw [hs2.2.1]
            iterate 2 refine go_s rfl rfl rfl trivial ?_
            rw [hs2.2.2.1]
            iterate 1 refine go_s rfl rfl rfl trivial ?_
            refine go_c rfl rfl rfl (c_Pa_init (kd := 2) hgp (b01_g _)) ?_
            rintro r h3 ⟨rfl, rfl⟩
            rw [show (2 : Nat) = kR 1 from rfl]
            rw [hset]
            exact last
        iterate 2 refine go_s rfl rfl rfl trivial ?_
        refine go_if (fun hc1 => ?_) (fun hc1 => ?_)
        · have h42 : ¬ sy P (pl + wl P pl) = 42 := fun q => hc1 ((symI_eq (c := 42) hP.lt (by decide)).mpr q)
          rw [if_neg h42]
          iterate 4 refine go_s rfl rfl rfl trivial ?_
          refine go_if (fun _ => ?_) (fun hc2 => absurd rfl hc2)
          exact tail 0 (pl + wl P pl) _ (by omega) hs1 bn1 hwl
        · have h42 : sy P (pl + wl P pl) = 42 := (symI_eq (c := 42) hP.lt (by decide)).mp (Classical.not_not.mp hc1)
          have hlt : pl + wl P pl < P.2 := Nat.lt_of_not_le fun q => by rw [sy_out q] at h42; omega
          rw [if_pos h42]
          iterate 5 refine go_s rfl rfl rfl trivial ?_
          refine go_if (fun hc2 => absurd hc2 (by decide)) (fun _ => ?_)
          iterate 3 refine go_s rfl rfl rfl trivial ?_
          rw [show va_up J 12 (nI (pl + wl P pl)) 12 = nI (pl + wl P pl) from va_up_self _ _ _]
          iterate 2 refine go_s rfl rfl rfl trivial ?_
          rw [nI_1]
          iterate 1 refine go_s rfl rfl rfl trivial ?_
          exact tail 1 (pl + wl P pl + 1) (va_up (va_up J 12 (nI (pl + wl P pl))) 12 (nI (pl + wl P pl + 1))) (by omega) hs1.mv (bn1.up (Nat.lt_succ_self _)) hlt
  · have h34 : sy P pl = 34 := (symI_eq (c := 34) hP.lt (by decide)).mp (Classical.not_not.mp hc)
    have hlt : pl < P.2 := Nat.lt_of_not_le fun q => by rw [sy_out q] at h34; omega
    rw [paG, if_pos h34]
    iterate 3 refine go_s rfl rfl rfl trivial ?_
    rw [hs.1]
    iterate 2 refine go_s rfl rfl rfl trivial ?_
    rw [nI_1]
    iterate 1 refine go_s rfl rfl rfl trivial ?_
    change Go m_Qu_readPart 62 _ _ (hC L xs (va_up J 12 (nI (pl + 1))) N G U p M D) _
    have hs1 : qR (pl + 1) row Q fo J0 G0 p0 D0 (va_up J 12 (nI (pl + 1))) G p D := hs.mv
    iterate 2 refine go_s rfl rfl rfl trivial ?_
    refine go_c rfl rfl rfl (c_Qu_readPhrase (neg := neg) hP0 hlt (hbd.up (Nat.lt_succ_self _)) hQ hs1) ?_
    rintro r h3 ⟨J', G', p', D', rfl, hz⟩
    cases hph : phF P Q.2.2.1 97 (pl + 1) Q.2.2.1 Q.2.2.2 with
    | inl g =>
      rw [hph] at hz
      obtain ⟨rfl, hz⟩ := hz
      exact go_r rfl rfl rfl (Or.inl rfl) ⟨J', G', p', D', rfl, rfl, hz⟩
    | inr y =>
      have hby := phF_inr P Q.2.2.1 97 _ _ _ _ hph
      rw [hph] at hz
      obtain ⟨rfl, ⟨f, hz⟩, hz2, hz3⟩ := hz
      exact go_r rfl rfl rfl (Or.inr rfl) ⟨J', G', p', D', rfl, rfl, ⟨f, hz⟩, hz2, hz3, by show Q.1 + 1 ≤ y.2.1; omega⟩
theorem c_Qu_readPart {pl row : Nat} {Q : tx_Q} {fo : Nat → Nat} (hP0 : cP P J0 N) (hp : pl ≤ P.2) (hbd : bnd P Q.2.2.1 pl) (hQ : Q.1 ≤ Q.2.2.1) (hs : qR pl row Q fo J0 G0 p0 D0 J G p D) : Do m_Qu_readPart [.ref 34] (hC L xs J N G U p M D) (paC P row Q J0 G0 p0 D0 L xs N U M (paF P pl row Q.2.2.1 Q.2.2.2)) := by
  have h96 := hP0.2.1
  have hP := hs.cP hP0
  iterate 4 refine go_s rfl rfl rfl trivial ?_
  rw [hs.1]
  refine go_c rfl rfl rfl (c_Ta_symbolAt hP (k := pl) (by omega)) ?_
  rintro r h3 ⟨rfl, rfl⟩
  iterate 2 refine go_s rfl rfl rfl trivial ?_
  refine go_if (fun hc => ?_) (fun hc => ?_)
  · have h45 : ¬ sy P pl = 45 := fun q => hc ((symI_eq (c := 45) hP.lt (by decide)).mpr q)
    rw [paF, if_neg h45]
    iterate 4 refine go_s rfl rfl rfl trivial ?_
    refine go_if (fun _ => ?_) (fun hc1 => absurd rfl hc1)
    have := l_cp36 (L := L) (xs := xs) (U := U) (M := M) (neg := false) hP0 hp hbd hQ hs
    rw [b01_f (P := false = true) (by decide)] at this
    exact this
  · have h45 : sy P pl = 45 := (symI_eq (c := 45) hP.lt (by decide)).mp (Classical.not_not.mp hc)
    have hlt : pl < P.2 := Nat.lt_of_not_le fun q => by rw [sy_out q] at h45; omega
    rw [paF, if_pos h45]
    iterate 5 refine go_s rfl rfl rfl trivial ?_
    refine go_if (fun hc1 => absurd hc1 (by decide)) (fun _ => ?_)
    iterate 3 refine go_s rfl rfl rfl trivial ?_
    rw [hs.1]
    iterate 2 refine go_s rfl rfl rfl trivial ?_
    rw [nI_1]
    iterate 1 refine go_s rfl rfl rfl trivial ?_
    have := l_cp36 (L := L) (xs := xs) (U := U) (M := M) (neg := true) hP0 (show pl + 1 ≤ P.2 from hlt) (hbd.up (Nat.lt_succ_self _)) hQ (hs.mv (pl' := pl + 1))
    rw [b01_t (P := true = true) rfl] at this
    exact this
theorem l_cq26 (hP0 : cP P J0 N) : ∀ (f pl row : Nat) (wanted : Bool) (Q : tx_Q) (fo : Nat → Nat) (J : Nat → Int32) (G : Nat → Nat → Int64) (p : Nat → Nat) (D : List am_C), f ≤ 97 → pl ≤ P.2 → bnd P Q.2.2.1 pl → Q.1 ≤ Q.2.2.1 → qR pl row Q fo J0 G0 p0 D0 J G p D →
    Go m_Qu_read 26 [some (.ref 34), some (.int (bI wanted)), some (.int (nI (97 - f)))] [] (hC L xs J N G U p M D) (quC P J0 G0 p0 D0 L xs N U M (quF P f pl row wanted Q)) := by
  intro f
  have h96 := hP0.2.1
  induction f with
  | zero =>
    intro pl row wanted Q fo J G p D hf hp hbd hQ hs
    have h48 := hs.2.2.2.2.1
    iterate 3 refine go_s rfl rfl rfl trivial ?_
    refine go_if (fun _ => ?_) (fun hc => absurd (by decide) hc)
    iterate 2 refine go_s rfl rfl rfl trivial ?_
    rw [hs.1]
    exact go_r rfl rfl rfl trivial ⟨J, G, p, D, rfl, rfl, hs.bad rfl (by omega) (by omega)⟩
  | succ f ih =>
    intro pl row wanted Q fo J G p D hf hp hbd hQ hs
    have h48 := hs.2.2.2.2.1
    have hP := hs.cP hP0
    have hsg := sk_ge P pl
    have hsl := sk_le hp
    iterate 3 refine go_s rfl rfl rfl trivial ?_
    refine go_if (fun hc => absurd ((nI_ltI (a := 96) (b := 97 - (f + 1)) (by omega) (by omega)).mp hc) (by omega)) (fun _ => ?_)
    iterate 1 refine go_s rfl rfl rfl trivial ?_
    refine go_c rfl rfl rfl (c_skipBlanks hP hs.1 hp) ?_
    rintro r h3 ⟨rfl, rfl⟩
    have hs1 : qR (sk P pl) row Q fo J0 G0 p0 D0 (va_up J 12 (nI (sk P pl))) G p D := hs.mv
    have hP1 := hs1.cP hP0
    have e12 : va_up J 12 (nI (sk P pl)) 12 = nI (sk P pl) := va_up_self _ _ _
    generalize va_up J 12 (nI (sk P pl)) = J1 at *
    iterate 2 refine go_s rfl rfl rfl trivial ?_
    rw [e12]
    iterate 2 refine go_s rfl rfl rfl trivial ?_
    refine go_c rfl rfl rfl (c_Ta_length hP1) ?_
    rintro r h3 ⟨rfl, rfl⟩
    iterate 1 refine go_s rfl rfl rfl trivial ?_
    refine go_if (fun hc => ?_) (fun hc => ?_)
    · have hlt := (nI_ltI (a := sk P pl) (b := P.2) (by omega) (by omega)).mp hc
      have part : ¬ (wanted = false ∧ sy P (sk P pl) = 124) → Go m_Qu_read 108 [some (.ref 34), some (.int (bI wanted)), some (.int (nI (97 - (f + 1))))] [] (hC L xs J1 N G U p M D) (quC P J0 G0 p0 D0 L xs N U M (quF P (f + 1) pl row wanted Q)) := by
        intro hno
        rw [quF, if_neg (show ¬ P.2 ≤ sk P pl by omega), if_neg hno]
        iterate 1 refine go_s rfl rfl rfl trivial ?_
        refine go_c rfl rfl rfl (c_Qu_readPart hP0 hsl (hbd.le hsg) hQ hs1) ?_
        rintro r h3 ⟨J', G', p', D', rfl, hz⟩
        cases hpa : paF P (sk P pl) row Q.2.2.1 Q.2.2.2 with
        | inl g =>
          rw [hpa] at hz
          obtain ⟨rfl, hz⟩ := hz
          iterate 1 refine go_s rfl rfl rfl trivial ?_
          refine go_if (fun _ => ?_) (fun hc1 => absurd rfl hc1)
          iterate 2 refine go_s rfl rfl rfl trivial ?_
          rw [hz.1]
          exact go_r rfl rfl rfl trivial ⟨J', G', p', D', rfl, rfl, hz⟩
        | inr y =>
          rw [hpa] at hz
          obtain ⟨rfl, ⟨f', hz⟩, hz2, hz3, hz4⟩ := hz
          iterate 1 refine go_s rfl rfl rfl trivial ?_
          refine go_if (fun hc1 => absurd hc1 (by decide)) (fun _ => ?_)
          iterate 5 refine go_s rfl rfl rfl trivial ?_
          rw [nI_1, show 97 - (f + 1) + 1 = 97 - f by omega]
          have := ih y.1 row false (Q.1 + 1, va_up Q.2.1 Q.1 y.2.1, y.2.2.1, y.2.2.2) f' J' G' p' D' (by omega) hz3 hz2 hz4 hz
          exact this
      iterate 2 refine go_s rfl rfl rfl trivial ?_
      cases wanted with
      | true =>
        refine go_if (fun _ => ?_) (fun hc1 => absurd (by decide) hc1)
        exact part (fun q => by cases q.1)
      | false =>
        refine go_if (fun hc1 => absurd rfl hc1) (fun _ => ?_)
        iterate 4 refine go_s rfl rfl rfl trivial ?_
        rw [e12]
        refine go_c rfl rfl rfl (c_Ta_symbolAt hP1 (k := sk P pl) (by omega)) ?_
        rintro r h3 ⟨rfl, rfl⟩
        iterate 2 refine go_s rfl rfl rfl trivial ?_
        refine go_if (fun hc1 => part (fun q => hc1 ((symI_eq (c := 124) hP.lt (by decide)).mpr q.2))) (fun hc1 => ?_)
        have h124 := (symI_eq (c := 124) hP.lt (by decide)).mp (Classical.not_not.mp hc1)
        rw [quF, if_neg (show ¬ P.2 ≤ sk P pl by omega), if_pos ⟨rfl, h124⟩]
        iterate 3 refine go_s rfl rfl rfl trivial ?_
        rw [e12]
        iterate 2 refine go_s rfl rfl rfl trivial ?_
        rw [nI_1]
        iterate 1 refine go_s rfl rfl rfl trivial ?_
        change Go m_Qu_read 93 _ _ (hC L xs (va_up J1 12 (nI (sk P pl + 1))) N G U p M D) _
        have hs2 : qR (sk P pl + 1) row Q fo J0 G0 p0 D0 (va_up J1 12 (nI (sk P pl + 1))) G p D := hs1.mv
        generalize va_up J1 12 (nI (sk P pl + 1)) = J2 at *
        iterate 3 refine go_s rfl rfl rfl trivial ?_
        rw [hs2.2.1]
        iterate 2 refine go_s rfl rfl rfl trivial ?_
        rw [nI_1]
        iterate 1 refine go_s rfl rfl rfl trivial ?_
        change Go m_Qu_read 103 _ _ (hC L xs (va_up J2 13 (nI (row + 1))) N G U p M D) _
        iterate 5 refine go_s rfl rfl rfl trivial ?_
        rw [nI_1, show 97 - (f + 1) + 1 = 97 - f by omega]
        obtain ⟨k1, k2, k3, k4, k5, k6, k7, k8, k9⟩ := hs2
        have hs3 : qR (sk P pl + 1) (row + 1) Q fo J0 G0 p0 D0 (va_up J2 13 (nI (row + 1))) G p D := ⟨(va_up_ne _ _ (by decide)).trans k1, va_up_self _ _ _, (va_up_ne _ _ (by decide)).trans k3, k4, k5, k6.kj (va_up_ne _ _ (by decide)), k7, fun i hi => (va_up_ne _ _ (by omega)).trans (k8 i hi), k9⟩
        exact ih (sk P pl + 1) (row + 1) true Q fo _ G p D (by omega) hlt ((hbd.le hsg).up (Nat.lt_succ_self _)) hQ hs3
    · have hge : P.2 ≤ sk P pl := Nat.le_of_not_lt fun q => hc ((nI_ltI (a := sk P pl) (b := P.2) (by omega) (by omega)).mpr q)
      rw [quF, if_pos hge]
      iterate 2 refine go_s rfl rfl rfl trivial ?_
      cases wanted with
      | true =>
        rw [if_pos rfl]
        refine go_if (fun hc1 => absurd hc1 (by decide)) (fun _ => ?_)
        iterate 2 refine go_s rfl rfl rfl trivial ?_
        rw [e12]
        iterate 1 refine go_s rfl rfl rfl trivial ?_
        exact go_r rfl rfl rfl trivial ⟨J1, G, p, D, rfl, rfl, hs1.bad rfl (by omega) (by omega)⟩
      | false =>
        rw [if_neg (show ¬ (false = true) by decide)]
        refine go_if (fun _ => ?_) (fun hc1 => absurd rfl hc1)
        iterate 1 refine go_s rfl rfl rfl trivial ?_
        exact go_r rfl rfl rfl trivial ⟨J1, G, p, D, rfl, rfl, fo, _, _, hs1⟩
theorem c_Qu_read {n : Nat} {f : Nat → Nat} (hP : cP P J N) (hl : cLst n f p J D) : Do m_Qu_read [.ref 34] (hC L xs J N G U p M D) (fun r h' => ∃ D1, dP D D1 ∧ am_sz D1 = am_sz D ∧ D1.length = D.length ∧ ∃ J1, (∀ i, i < 10 ∨ i = 11 ∨ 15 < i → J1 i = J i) ∧ quC P J1 G p D1 L xs N U M (quF P 97 0 0 true q00) r h') := by
  iterate 2 refine go_s rfl rfl rfl trivial ?_
  refine go_c rfl rfl rfl (c_AL_clear hl) ?_
  rintro r h3 ⟨rfl, J', D', rfl, k1, k2, k3, k4, k5⟩
  iterate 3 refine go_s rfl rfl rfl trivial ?_
  change Go m_Qu_read 12 _ _ (hC L xs (va_up J' 10 0) N G U p M D') _
  iterate 3 refine go_s rfl rfl rfl trivial ?_
  change Go m_Qu_read 17 _ _ (hC L xs (va_up (va_up J' 10 0) 12 0) N G U p M D') _
  iterate 3 refine go_s rfl rfl rfl trivial ?_
  change Go m_Qu_read 22 _ _ (hC L xs (va_up (va_up (va_up J' 10 0) 12 0) 13 0) N G U p M D') _
  iterate 4 refine go_s rfl rfl rfl trivial ?_
  have kJ : ∀ i, i ≠ 10 → i ≠ 12 → i ≠ 13 → va_up (va_up (va_up J' 10 0) 12 0) 13 0 i = J' i := fun i a b c => (va_up_ne _ _ c).trans ((va_up_ne _ _ b).trans (va_up_ne _ _ a))
  have hP1 : cP P J' N := hP.kj (k2 0 (by decide) (by decide))
  refine (l_cq26 (G0 := G) (p0 := p) (D0 := D') (J0 := J') hP1 97 0 0 true q00 (fun _ => 0) (va_up (va_up (va_up J' 10 0) 12 0) 13 0) G p D' (Nat.le_refl _) (Nat.zero_le _) (Or.inl (Nat.le_refl _)) (Nat.le_refl _) ⟨?_, va_up_self _ _ _, ?_, fun j hj => absurd hj (Nat.not_lt_zero j), Nat.zero_le _, (k1 _).kj (kJ 15 (by decide) (by decide) (by decide)), fun i hi => absurd hi (Nat.not_lt_zero i), fun i hi => kJ i (by omega) (by omega) (by omega), fun _ _ => rfl, fun _ _ => rfl, dP.rf _, Nat.le_refl _, Nat.le_refl _⟩).mono fun r h' g => ?_
  · exact (va_up_ne _ _ (by decide)).trans (va_up_self _ _ _)
  · exact (va_up_ne _ _ (by decide)).trans ((va_up_ne _ _ (by decide)).trans (va_up_self _ _ _))
  · exact ⟨D', k3, k4, k5, J', fun i hi => k2 i (by omega) (by omega), g⟩
end QREAD2
