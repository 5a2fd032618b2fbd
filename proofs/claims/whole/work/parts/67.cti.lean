/-! ===== the class's calls: ending, ask ===== -/
theorem quF_rows (P : tx_P) : ∀ (f p row : Nat) (wanted : Bool) (Q : tx_Q) (y : tx_Q × Nat), quF P f p row wanted Q = .inr y → y.2 ≤ row + f + 1
  | 0, p, row, wanted, Q, y, h => by simp [quF] at h
  | f + 1, p, row, wanted, Q, y, h => by
    rw [quF] at h
    split at h
    · split at h
      · simp at h
      · injection h with h
        rw [← h]
        show row + 1 ≤ row + (f + 1) + 1
        omega
    · split at h
      · have := quF_rows P f _ _ _ _ y h
        omega
      · split at h
        · simp at h
        · have := quF_rows P f _ _ _ _ y h
          omega
theorem f_m1 {f : Int32} (h : -1 ≤ f) : f < 0 ↔ f = -1 := by
  have e0 : (0 : Int32).toInt = 0 := by decide
  have e1 : (-1 : Int32).toInt = -1 := by decide
  rw [Int32.le_iff_toInt_le, e1] at h
  rw [Int32.lt_iff_toInt_lt, e0]
  constructor
  · intro q
    exact Int32.toInt_inj.mp (by rw [e1]; omega)
  · intro q
    rw [q, e1]
    decide
theorem cN_rule {N : tx_N} {J J' : Nat → Int32} {G G' : Nat → Nat → Int64} {p : Nat → Nat} {D : List am_C} {cp : Nat → Nat} {l : Nat} {u v : List Nat} (h : cN N J G p D cp) (hl : l < 3) (h8 : (N.2 l).length < 8) (hu : wok u) (hv : wok0 v) (hJ : J' (2 + l) = nI ((N.2 l).length + 1)) (hJ' : ∀ i, i ≠ 2 + l → J' i = J i) (h1 : G' (1 + l) = vp_updL (G (1 + l)) (N.2 l).length (lN (enc u))) (h4 : G' (4 + l) = vp_updL (G (4 + l)) (N.2 l).length (lN (enc v))) (hG : ∀ i, i ≠ 1 + l → i ≠ 4 + l → G' i = G i) : cN (N.1, va_up N.2 l (N.2 l ++ [(u, v)])) J' G' p D cp := by
  refine ⟨fun l' hl' => ?_, h.2.1, h.2.2⟩
  show J' (2 + l') = nI (va_up N.2 l (N.2 l ++ [(u, v)]) l').length ∧ J' (5 + l') = nI (N.1 l').length ∧ ∃ fs, srow G' D (p l') l' (cp l') fs ∧ lgd (N.1 l') (va_up N.2 l (N.2 l ++ [(u, v)]) l') (cp l') (G' (1 + l')) (G' (4 + l')) fs
  obtain ⟨k1, k2, fs, k3, k4⟩ := h.1 l' hl'
  have hrow : srow G' D (p l') l' (cp l') fs := by
    rcases k3 with ⟨e1, e2, e3⟩ | k3
    · exact Or.inl ⟨e1, e2, by rw [hG (7 + l') (by omega) (by omega)]; exact e3⟩
    · exact Or.inr k3
  by_cases e : l' = l
  · subst e
    rw [va_up_self, h1, h4]
    obtain ⟨d1, d2, d3, d4, d5, d6, d7⟩ := k4
    refine ⟨by rw [hJ, List.length_append]; rfl, by rw [hJ' (5 + l') (by omega)]; exact k2, fs, hrow, by rw [List.length_append, List.length_singleton]; omega, d2, d3, fun k hk => ?_, d5, d6, fun q hq => ?_⟩
    · rw [List.length_append, List.length_singleton] at hk
      by_cases ek : k = (N.2 l').length
      · subst ek
        have e3 : (N.2 l' ++ [(u, v)]).getD (N.2 l').length ([], []) = (u, v) := by
          rw [List.getD_eq_getElem?_getD, List.getElem?_append_right (Nat.le_refl _)]
          simp
        rw [e3, pk_uLs, pk_uLs]
        exact ⟨rfl, rfl⟩
      · have e3 : (N.2 l' ++ [(u, v)]).getD k ([], []) = (N.2 l').getD k ([], []) := by
          rw [List.getD_eq_getElem?_getD, List.getElem?_append_left (by omega), ← List.getD_eq_getElem?_getD]
        rw [e3, pk_uLn ek, pk_uLn ek]
        exact d4 k (by omega)
    · rcases List.mem_append.mp hq with g | g
      · exact d7 q g
      · rw [List.mem_singleton.mp g]; exact ⟨hu, hv⟩
  · rw [va_up_ne _ _ e, hG (1 + l') (by omega) (by omega), hG (4 + l') (by omega) (by omega), hJ' (2 + l') (by omega), hJ' (5 + l') (by omega)]
    exact ⟨k1, k2, fs, hrow, k4⟩
section TI3
variable {L : Nat} {xs : Nat → Int32} {J : Nat → Int32} {N : Nat → Nat → Int32} {G : Nat → Nat → Int64} {U : Int64} {p : Nat → Nat} {M : Nat → am_C} {D : List am_C} {cp : Nat → Nat} {Z : tx_Z}
theorem c_La_ruleCount {h : List am_C} {a : Nat} {S : List (List Nat)} {R : List (List Nat × List Nat)} {l e i s cap : Nat} {fe fi fs : Nat → Int64} (ho : lgo h a l S R e i s cap fe fi fs) : Do m_La_ruleCount [.ref a] h (fun r h' => r = some (.int (nI R.length)) ∧ h' = h) := by
  iterate 1 refine go_s rfl rfl rfl trivial ?_
  refine go_s rfl rfl (s_gf ho.1 rfl) trivial ?_
  exact go_r rfl rfl rfl trivial ⟨rfl, rfl⟩
theorem c_TI_ending (h : tx_c Z J N G U p D cp) (x : Int32) : Do m_TI_ending [.ref 6, .int x] (hC L xs J N G U p M D) (fun r h' => r = some (.int (spEnding Z x).1) ∧ tiP L xs M (spEnding Z x).2 D cp h') := by
  iterate 2 refine go_s rfl rfl rfl trivial ?_
  refine go_c rfl rfl rfl (c_languageOf x) ?_
  rintro r h0 ⟨⟨hq, rfl⟩ | ⟨hq, rfl⟩, rfl⟩
  · obtain ⟨l, hl, rfl⟩ := isL_nat hq
    have cl : (nI l).toNatClampNeg = l := nI_clamp (by omega)
    rw [spEnding, ifp_t hq, cl]
    iterate 5 refine go_s rfl rfl rfl trivial ?_
    refine go_c rfl rfl rfl (c_Ta_split h.1) ?_
    rintro r h0 ⟨rfl, J1, N1, G1, rfl, g1, g2, g3, g4⟩
    have h1 : tx_c Z J1 N1 G1 U p D cp := h.keep (fun i hi => g2 i (by omega)) (fun i hi => g3 i (by omega) (by omega)) (fun i hi => g4 i (by omega))
    have z48 : (zw Z).1 ≤ 48 := g1.2.1
    change Go m_TI_ending 19 _ [.int (nI (zw Z).1)] _ _
    iterate 4 refine go_s rfl rfl rfl trivial ?_
    refine go_c rfl rfl rfl (c_Ta_wordAt g1 (k := 0) (by omega)) ?_
    rintro r h0 ⟨rfl, rfl⟩
    iterate 4 refine go_s rfl rfl rfl trivial ?_
    refine go_c rfl rfl rfl (c_Ta_wordAt g1 (k := 1) (by omega)) ?_
    rintro r h0 ⟨rfl, rfl⟩
    iterate 3 refine go_s rfl rfl rfl trivial ?_
    refine go_c rfl rfl rfl (c_Ta_clear J1 N1 G1) ?_
    rintro r h0 ⟨rfl, rfl⟩
    have h2 := h1.clr
    iterate 3 refine go_s rfl rfl rfl trivial ?_
    refine go_if (fun hc => ?_) (fun hc => ?_)
    · have hlt := (nI_ltI (a := (zw Z).1) (b := 1) (by omega) (by omega)).mp hc
      rw [if_pos (show (zw Z).1 = 0 ∨ 2 < (zw Z).1 by omega)]
      iterate 1 refine go_s rfl rfl rfl trivial ?_
      exact go_r rfl rfl rfl trivial ⟨rfl, _, N1, G1, U, p, D, cp, rfl, h2, dB.rf _ _⟩
    · have h1le : ¬ (zw Z).1 < 1 := fun q => hc ((nI_ltI (a := (zw Z).1) (b := 1) (by omega) (by omega)).mpr q)
      iterate 3 refine go_s rfl rfl rfl trivial ?_
      refine go_if (fun hc1 => ?_) (fun hc1 => ?_)
      · have hle := (nI_leI (a := (zw Z).1) (b := 2) (by omega) (by omega)).mp hc1
        rw [if_neg (show ¬ ((zw Z).1 = 0 ∨ 2 < (zw Z).1) by omega)]
        obtain ⟨t1, t2, t3, t4, t5, t6, t7, t8⟩ := id h2
        obtain ⟨b1, b2, fsx, b3, b4⟩ := t2.1 l hl
        have b1 : va_up (va_up J1 0 0) 1 0 (2 + l) = nI ((zN Z).2 l).length := b1
        have b48 : ((zN Z).2 l).length ≤ 8 := b4.1
        have hw0 := zw_wok Z (i := 0) (by omega)
        have e0 : (if 0 < (wst (zP Z).1 (zP Z).2).1 then lN (enc ((wst (zP Z).1 (zP Z).2).2.2.1 0)) else 0) = lN (enc ((zw Z).2.2.1 0)) := if_pos (by show 0 < (zw Z).1; omega)
        have e1 : (if 1 < (wst (zP Z).1 (zP Z).2).1 then lN (enc ((wst (zP Z).1 (zP Z).2).2.2.1 1)) else 0) = lN (enc (if (zw Z).1 = 2 then (zw Z).2.2.1 1 else [])) := by
          by_cases q : (zw Z).1 = 2
          · rw [if_pos q]
            exact if_pos (by show 1 < (zw Z).1; omega)
          · rw [if_neg q]
            exact if_neg (by show ¬ 1 < (zw Z).1; omega)
        have hw1 : wok0 (if (zw Z).1 = 2 then (zw Z).2.2.1 1 else []) := by
          by_cases q : (zw Z).1 = 2
          · rw [if_pos q]
            exact (zw_wok Z (i := 1) (by omega)).o
          · rw [if_neg q]
            exact ⟨Nat.zero_le _, fun x hx => by cases hx⟩
        obtain ⟨-, q0⟩ := t2.q (L := L) (xs := xs) (N := N1) (U := U) (M := M) hl
        obtain ⟨eB, iB, sB, capB, feB, fiB, fsB, hoB, hdB⟩ := q0
        rw [e0, e1]
        iterate 3 refine go_s rfl rfl rfl trivial ?_
        refine go_c rfl rfl (call_v rfl hoB.1 (by omega) rfl rfl) (c_addRule hl b1 b48 _ _) ?_
        rintro r h0 (⟨m1, rfl, rfl⟩ | ⟨m1, rfl, rfl⟩)
        · rw [if_pos m1]
          iterate 1 refine go_s rfl rfl rfl trivial ?_
          refine go_if (fun hc2 => absurd rfl hc2) (fun _ => ?_)
          iterate 1 refine go_s rfl rfl rfl trivial ?_
          exact go_r rfl rfl rfl trivial ⟨rfl, _, N1, G1, U, p, D, cp, rfl, h2, dB.rf _ _⟩
        · rw [if_neg (show ¬ ((zN Z).2 l).length = 8 by omega)]
          iterate 1 refine go_s rfl rfl rfl trivial ?_
          refine go_if (fun _ => ?_) (fun hc2 => absurd (by decide) hc2)
          generalize hJ2 : va_up (va_up J1 0 0) 1 0 = J2 at *
          have hN3 : cN ((zN Z).1, va_up (zN Z).2 l ((zN Z).2 l ++ [((zw Z).2.2.1 0, if (zw Z).1 = 2 then (zw Z).2.2.1 1 else [])])) (va_up J2 (2 + l) (nI (((zN Z).2 l).length + 1))) (va_up (va_up G1 (1 + l) (vp_updL (G1 (1 + l)) ((zN Z).2 l).length (lN (enc ((zw Z).2.2.1 0))))) (4 + l) (vp_updL (G1 (4 + l)) ((zN Z).2 l).length (lN (enc (if (zw Z).1 = 2 then (zw Z).2.2.1 1 else []))))) p D cp := cN_rule t2 hl m1 hw0 hw1 (va_up_self _ _ _) (fun i hi => va_up_ne _ _ hi) ((va_up_ne _ _ (by omega)).trans (va_up_self _ _ _)) (va_up_self _ _ _) (fun i a b => (va_up_ne _ _ b).trans (va_up_ne _ _ a))
          have kG : ∀ i, i = 0 ∨ 7 ≤ i → (va_up (va_up G1 (1 + l) (vp_updL (G1 (1 + l)) ((zN Z).2 l).length (lN (enc ((zw Z).2.2.1 0))))) (4 + l) (vp_updL (G1 (4 + l)) ((zN Z).2 l).length (lN (enc (if (zw Z).1 = 2 then (zw Z).2.2.1 1 else []))))) i = G1 i := fun i hi => (va_up_ne _ _ (by omega)).trans (va_up_ne _ _ (by omega))
          have kJ : ∀ i, i < 2 ∨ 4 < i → va_up J2 (2 + l) (nI (((zN Z).2 l).length + 1)) i = J2 i := fun i hi => va_up_ne _ _ (by omega)
          generalize (va_up (va_up G1 (1 + l) (vp_updL (G1 (1 + l)) ((zN Z).2 l).length (lN (enc ((zw Z).2.2.1 0))))) (4 + l) (vp_updL (G1 (4 + l)) ((zN Z).2 l).length (lN (enc (if (zw Z).1 = 2 then (zw Z).2.2.1 1 else []))))) = G3 at *
          generalize va_up J2 (2 + l) (nI (((zN Z).2 l).length + 1)) = J3 at *
          have hX3 : cXs (zX Z) J3 N1 G3 := t3.keep (kJ 8 (by omega)) (kJ 9 (by omega)) (fun _ _ _ => rfl) (kG 10 (by omega))
          have hsA : sAg (zX Z) ((zN Z).1, va_up (zN Z).2 l ((zN Z).2 l ++ [((zw Z).2.2.1 0, if (zw Z).1 = 2 then (zw Z).2.2.1 1 else [])])) l 0 0 G3 := by
            intro t ht l' hl' q hq g
            have e4 : G1 11 (stX (zX Z) t + q) = lN (encO (nE (zN Z) l' (xwd (zX Z) t q))) := t4 t ht l' hl' q hq
            rw [kG 11 (by omega), e4]
            rcases g with g | g | g
            · exact congrArg (fun o => lN (encO o)) (nE_o (N := ((zN Z).1, va_up (zN Z).2 l ((zN Z).2 l ++ [((zw Z).2.2.1 0, if (zw Z).1 = 2 then (zw Z).2.2.1 1 else [])]))) (N' := zN Z) rfl (va_up_ne _ _ g).symm _)
            · omega
            · omega
          iterate 3 refine go_s rfl rfl rfl trivial ?_
          refine go_c rfl rfl rfl (c_stemAgain hX3 hN3 hl hsA) ?_
          rintro r h0 ⟨rfl, G4, rfl, s1, s2⟩
          have hN4 := hN3.g (G' := G4) (fun i hi => s2 i (by omega))
          obtain ⟨-, q0⟩ := hN4.q (L := L) (xs := xs) (N := N1) (U := U) (M := M) hl
          obtain ⟨eC, iC, sC, capC, feC, fiC, fsC, hoC, hdC⟩ := q0
          iterate 1 refine go_s rfl rfl rfl trivial ?_
          refine go_c rfl rfl (call_v rfl hoC.1 (by omega) rfl rfl) (c_La_ruleCount hoC) ?_
          rintro r h0 ⟨rfl, rfl⟩
          refine go_r rfl rfl rfl trivial ⟨?_, J3, N1, G4, U, p, D, cp, rfl, ⟨t1.kj (kJ 0 (by omega)), hN4, hX3.keep rfl rfl (fun _ _ _ => rfl) (s2 10 (by decide)), s1, t5.keep (kJ 16 (by omega)) rfl ((s2 15 (by decide)).trans (kG 15 (by omega))), t6.kj (kJ 17 (by omega)) ((s2 16 (by decide)).trans (kG 16 (by omega))), t7, t8.kj (kJ 15 (by omega))⟩, dB.rf _ _⟩
          show some (Value.int (nI (va_up (zN Z).2 l ((zN Z).2 l ++ [((zw Z).2.2.1 0, if (zw Z).1 = 2 then (zw Z).2.2.1 1 else [])]) l).length)) = _
          rw [va_up_self, List.length_append]
          rfl
      · have hgt : 2 < (zw Z).1 := Nat.lt_of_not_le fun q => hc1 ((nI_leI (a := (zw Z).1) (b := 2) (by omega) (by omega)).mpr q)
        rw [if_pos (show (zw Z).1 = 0 ∨ 2 < (zw Z).1 from Or.inr hgt)]
        iterate 1 refine go_s rfl rfl rfl trivial ?_
        exact go_r rfl rfl rfl trivial ⟨rfl, _, N1, G1, U, p, D, cp, rfl, h2, dB.rf _ _⟩
  · rw [spEnding, ifp_f hq]
    iterate 4 refine go_s rfl rfl rfl trivial ?_
    exact go_r rfl rfl rfl trivial ⟨rfl, J, N, G, U, p, D, cp, rfl, h, dB.rf _ _⟩
theorem c_TI_ask (h : tx_c Z J N G U p D cp) (x f : Int32) : Do m_TI_ask [.ref 6, .int x, .int f] (hC L xs J N G U p M D) (fun r h' => r = some (.int (spAsk Z x f).1) ∧ tiP L xs M (spAsk Z x f).2 D cp h') := by
  have bad : ¬ (isL x ∧ -1 ≤ f ∧ f < 4) → ∀ X3, Go m_TI_ask 20 [some (.ref 6), some (.int x), some (.int f), X3, none, none] [] (hC L xs J N G U p M D) (fun r h' => r = some (.int (spAsk Z x f).1) ∧ tiP L xs M (spAsk Z x f).2 D cp h') := by
    intro q X3
    rw [spAsk, ifp_f q]
    iterate 1 refine go_s rfl rfl rfl trivial ?_
    exact go_r rfl rfl rfl trivial ⟨rfl, J, N, G, U, p, D, cp, rfl, h, dB.rf _ _⟩
  iterate 2 refine go_s rfl rfl rfl trivial ?_
  refine go_c rfl rfl rfl (c_languageOf x) ?_
  rintro r h0 ⟨⟨hq, rfl⟩ | ⟨hq, rfl⟩, rfl⟩
  · obtain ⟨l, hl, rfl⟩ := isL_nat hq
    have cl : (nI l).toNatClampNeg = l := nI_clamp (by omega)
    iterate 6 refine go_s rfl rfl rfl trivial ?_
    refine go_if (fun hc1 => bad (fun q => Int32.not_lt.mpr q.2.1 hc1) _) (fun hc1 => ?_)
    iterate 3 refine go_s rfl rfl rfl trivial ?_
    refine go_if (fun hc2 => ?_) (fun hc2 => bad (fun q => hc2 q.2.2) _)
    have hf := f_m1 (Int32.not_lt.mp hc1)
    rw [spAsk, ifp_t ⟨hq, Int32.not_lt.mp hc1, hc2⟩, cl]
    obtain ⟨t1, t2, t3, t4, t5, t6, t7, n0, f0, t8⟩ := id h
    iterate 2 refine go_s rfl rfl rfl trivial ?_
    refine go_c rfl rfl rfl (c_Qu_read t1 t8) ?_
    rintro r h0 ⟨D1, d1, d2, d3, J1, k1, J2, G2, p2, D2, rfl, hz⟩
    -- what stands behind the reading
    have after : qfr J1 G p D1 48 J2 G2 p2 D2 → cLs p2 J2 D2 → tx_c (z0 Z) (va_up (va_up J2 0 0) 1 0) N G2 U p2 D2 cp ∧ dB cp D cp D2 := by
      rintro ⟨q1, q2, q3, q4, q5, q6⟩ hls
      have kJ : ∀ i, i < 10 ∨ i = 11 ∨ 15 < i → J2 i = J i := fun i hi => (q1 i hi).trans (k1 i hi)
      have h2 : tx_c Z J2 N G2 U p2 D2 cp := ⟨t1.kj (kJ 0 (by omega)), t2.keep (fun i a b => kJ i (by omega)) (fun i a b => q2 i (by omega)) (fun i hi => q3 i (by omega)) (fun j y hj => q4.long j y (d1.long j y hj)), t3.keep (kJ 8 (by omega)) (kJ 9 (by omega)) (fun _ _ _ => rfl) (q2 10 (by decide)), t4.keep (q2 11 (by decide)), t5.keep (kJ 16 (by omega)) rfl (q2 15 (by decide)), t6.kj (kJ 17 (by omega)) (q2 16 (by decide)), t7, hls⟩
      exact ⟨h2.clr, by omega, by omega⟩
    cases hqu : quF (zP Z) 97 0 0 true q00 with
    | inl g =>
      rw [hqu] at hz
      obtain ⟨rfl, z1, z2, z3, z4⟩ := hz
      obtain ⟨h3, hB⟩ := after z4 z3
      iterate 3 refine go_s rfl rfl rfl trivial ?_
      refine go_c rfl rfl rfl (c_Ta_clear J2 N G2) ?_
      rintro r h0 ⟨rfl, rfl⟩
      iterate 3 refine go_s rfl rfl rfl trivial ?_
      refine go_if (fun hc3 => ?_) (fun _ => ?_)
      · have hc3 : nI g = -1 := hc3
        have h0 : (-1 : Int32) < 0 := by decide
        rw [← hc3] at h0
        exact absurd h0 (nI_pos (by omega))
      · iterate 3 refine go_s rfl rfl rfl trivial ?_
        exact go_r rfl rfl rfl trivial ⟨rfl, _, N, G2, U, p2, D2, cp, rfl, h3, hB⟩
    | inr y =>
      rw [hqu] at hz
      obtain ⟨rfl, fo, pl, row, hR⟩ := hz
      have hi := quF_inv hqu
      have hrw := quF_rows _ _ _ _ _ _ _ hqu
      obtain ⟨r1, r2, r3, r4, r5, r6, r7, r8, r9, r10, r11, r12, r13⟩ := hR
      have hQ48 : y.1.1 ≤ 48 := Nat.le_trans hi.2.1 r5
      obtain ⟨h3, hB⟩ := after ⟨r8, r9, r10, r11, by omega, by omega⟩ ⟨_, _, r6⟩
      iterate 3 refine go_s rfl rfl rfl trivial ?_
      refine go_c rfl rfl rfl (c_Ta_clear J2 N G2) ?_
      rintro r h0 ⟨rfl, rfl⟩
      have r6' : cLst y.1.1 fo p2 (va_up (va_up J2 0 0) 1 0) D2 := r6.kj ((va_up_ne _ _ (by decide)).trans (va_up_ne _ _ (by decide)))
      generalize va_up (va_up J2 0 0) 1 0 = J3 at *
      obtain ⟨u1, u2, u3, u4, u5, u6, u7, u8⟩ := id h3
      iterate 3 refine go_s rfl rfl rfl trivial ?_
      refine go_if (fun _ => ?_) (fun hc3 => absurd rfl hc3)
      iterate 3 refine go_s rfl rfl rfl trivial ?_
      refine go_c rfl rfl rfl (c_stemSought hl u2 r6' r7 hi r5 r4) ?_
      rintro r h0 ⟨rfl, G4, rfl, s1, s2⟩
      have u3' : cXs (zX Z) J3 N G4 := u3.keep rfl rfl (fun _ _ _ => rfl) (s2 10 (by decide))
      have u4' : cXt (zX Z) G4 (nE (zN Z)) := u4.keep (s2 11 (by decide))
      have u2' : cN (zN Z) J3 G4 p2 D2 cp := u2.g (fun i hi => s2 i (by omega))
      iterate 6 refine go_s rfl rfl rfl trivial ?_
      refine go_c rfl rfl rfl (c_weigh u3' u4' u2'.eok hl hf r6' r7 hi r5 s1) ?_
      rintro r h0 ⟨rfl, J5, G5, rfl, w1, w2, w3⟩
      have u3'' : cXs (zX Z) J5 N G5 := u3'.keep (w2 8 (by decide)) (w2 9 (by decide)) (fun _ _ _ => rfl) (w3 10 (by decide) (by decide))
      have u4'' : cXt (zX Z) G5 (nE (zN Z)) := u4'.keep (w3 11 (by decide) (by decide))
      have u2'' : cN (zN Z) J5 G5 p2 D2 cp := u2'.keep (fun i a b => w2 i (by omega)) (fun i a b => w3 i (by omega) (by omega)) (fun _ _ => rfl) (fun _ _ q => q)
      have s1' : cSo y.1 (nE (zN Z)) l y.1.1 G5 := fun i hi' k hk => by rw [w3 12 (by decide) (by decide)]; exact s1 i hi' k hk
      have r6'' : cLst y.1.1 fo p2 J5 D2 := r6'.kj (w2 15 (by decide))
      iterate 2 refine go_s rfl rfl rfl trivial ?_
      refine go_c rfl rfl rfl (c_An_clear J5 N G5) ?_
      rintro r h0 ⟨rfl, rfl⟩
      iterate 2 refine go_s rfl rfl rfl trivial ?_
      have key : ∀ (d t : Nat) (J6 : Nat → Int32) (N6 : Nat → Nat → Int32) (G6 : Nat → Nat → Int64), 40 = t + d → cA (akF (nE (zN Z)) (zX Z) y.1 y.2 l f (min t (xnt (zX Z)))) J6 N6 G6 → (∀ i, i ≠ 16 → J6 i = J5 i) → (∀ i, i ≠ 9 → N6 i = N i) → (∀ i, i ≠ 15 → G6 i = G5 i) → Go m_TI_ask 81 [some (.ref 6), some (.int (nI l)), some (.int f), some (.ref (13 + 4 * l)), some (.int (-1)), some (.int (nI t))] [] (hC L xs J6 N6 G6 U p2 M D2) (fun r h' => r = some (.int (nI (akF (nE (zN Z)) (zX Z) y.1 y.2 l f (xnt (zX Z))).1)) ∧ tiP L xs M (((zP Z).1, 0), zN Z, zX Z, akF (nE (zN Z)) (zX Z) y.1 y.2 l f (xnt (zX Z)), zL Z, zS Z) D cp h') := by
        intro d
        have a3 : xnt (zX Z) ≤ 40 := u3.2.2.1
        induction d with
        | zero =>
          intro t J6 N6 G6 ht hA hJ hN hG
          have et : t = 40 := by omega
          subst et
          rw [Nat.min_eq_right a3] at hA
          iterate 3 refine go_s rfl rfl rfl trivial ?_
          refine go_if (fun _ => ?_) (fun hc4 => absurd (by decide) hc4)
          iterate 2 refine go_s rfl rfl rfl trivial ?_
          refine go_c rfl rfl rfl (c_An_count hA) ?_
          rintro r h0 ⟨rfl, rfl⟩
          refine go_r rfl rfl rfl trivial ⟨rfl, J6, N6, G6, U, p2, D2, cp, rfl, ⟨u1.keep ((hJ 0 (by decide)).trans (w2 0 (by decide))) (hN 0 (by decide)), u2''.keep (fun i a b => hJ i (by omega)) (fun i a b => hG i (by omega)) (fun _ _ => rfl) (fun _ _ q => q), u3''.keep (hJ 8 (by decide)) (hJ 9 (by decide)) (fun i a b => hN i (by omega)) (hG 10 (by decide)), u4''.keep (hG 11 (by decide)), hA, u6.kj ((hJ 17 (by decide)).trans (w2 17 (by decide))) ((hG 16 (by decide)).trans ((w3 16 (by decide) (by decide)).trans (s2 16 (by decide)))), u7, ⟨_, _, r6''.kj (hJ 15 (by decide))⟩⟩, hB⟩
        | succ d ih =>
          intro t J6 N6 G6 ht hA hJ hN hG
          have v3 : cXs (zX Z) J6 N6 G6 := u3''.keep (hJ 8 (by decide)) (hJ 9 (by decide)) (fun i a b => hN i (by omega)) (hG 10 (by decide))
          have v4 : cXt (zX Z) G6 (nE (zN Z)) := u4''.keep (hG 11 (by decide))
          have v6 : cLst y.1.1 fo p2 J6 D2 := r6''.kj (hJ 15 (by decide))
          have v1 : cSo y.1 (nE (zN Z)) l y.1.1 G6 := fun i hi' k hk => by rw [hG 12 (by decide)]; exact s1' i hi' k hk
          have vT : cTm (trF (nE (zN Z)) l y.1 y.1.1) (nE (zN Z)) (zX Z) l f J6 G6 := ⟨(hJ 11 (by decide)).trans w1.1, fun k hk => by rw [hG 13 (by decide), hG 14 (by decide)]; exact w1.2 k hk⟩
          have htl := trF_le (nE (zN Z)) l y.1 y.1.1
          have nx : ∀ (J7 : Nat → Int32) (N7 : Nat → Nat → Int32) (G7 : Nat → Nat → Int64), cA (akF (nE (zN Z)) (zX Z) y.1 y.2 l f (min (t + 1) (xnt (zX Z)))) J7 N7 G7 → (∀ i, i ≠ 16 → J7 i = J5 i) → (∀ i, i ≠ 9 → N7 i = N i) → (∀ i, i ≠ 15 → G7 i = G5 i) → Go m_TI_ask 140 [some (.ref 6), some (.int (nI l)), some (.int f), some (.ref (13 + 4 * l)), some (.int (-1)), some (.int (nI t))] [] (hC L xs J7 N7 G7 U p2 M D2) (fun r h' => r = some (.int (nI (akF (nE (zN Z)) (zX Z) y.1 y.2 l f (xnt (zX Z))).1)) ∧ tiP L xs M (((zP Z).1, 0), zN Z, zX Z, akF (nE (zN Z)) (zX Z) y.1 y.2 l f (xnt (zX Z)), zL Z, zS Z) D cp h') := by
            intro J7 N7 G7 hA7 hJ7 hN7 hG7
            iterate 2 refine go_s rfl rfl rfl trivial ?_
            rw [nI_1]
            exact ih (t + 1) J7 N7 G7 (by omega) hA7 hJ7 hN7 hG7
          have skip : ¬ (t < xnt (zX Z) ∧ askedP (zX Z) l t f ∧ ∃ r, r < y.2 ∧ rwQ (nE (zN Z)) (zX Z) l t y.1 r) → akF (nE (zN Z)) (zX Z) y.1 y.2 l f (min (t + 1) (xnt (zX Z))) = akF (nE (zN Z)) (zX Z) y.1 y.2 l f (min t (xnt (zX Z))) := by
            intro hno
            rcases Nat.lt_or_ge t (xnt (zX Z)) with q | q
            · rw [Nat.min_eq_left (by omega), Nat.min_eq_left (by omega), akF, ifp_f (fun g => hno ⟨q, g⟩)]
            · rw [Nat.min_eq_right (by omega), Nat.min_eq_right (by omega)]
          iterate 3 refine go_s rfl rfl rfl trivial ?_
          refine go_if (fun hc4 => absurd hc4 (nI_ge (a := t) (b := 40) (by omega) (by omega))) (fun _ => ?_)
          iterate 5 refine go_s rfl rfl rfl trivial ?_
          refine go_c rfl rfl rfl (c_isIn v3 (t := t) (by omega) hl hf) ?_
          rintro r h0 ⟨rfl, rfl⟩
          iterate 1 refine go_s rfl rfl rfl trivial ?_
          refine go_if (fun hc4 => ?_) (fun hc4 => ?_)
          · have hn := b01_eq0.mp hc4
            exact nx J6 N6 G6 (by rw [skip (fun q => hn ⟨q.1, q.2.1⟩)]; exact hA) hJ hN hG
          · obtain ⟨htn, ha⟩ : t < xnt (zX Z) ∧ askedP (zX Z) l t f := Classical.not_not.mp fun q => hc4 (b01_f q)
            iterate 5 refine go_s rfl rfl rfl trivial ?_
            refine go_c rfl rfl rfl (c_isAnsweredBy v3 v4 u2''.eok hl htn ha.1 v6 r7 hi (by omega) r5 v1) ?_
            rintro r h0 ⟨rfl, rfl⟩
            iterate 1 refine go_s rfl rfl rfl trivial ?_
            refine go_if (fun hc5 => ?_) (fun hc5 => ?_)
            · have hn := b01_eq0.mp hc5
              exact nx J6 N6 G6 (by rw [skip (fun q => hn q.2.2)]; exact hA) hJ hN hG
            · have hy : ∃ r, r < y.2 ∧ rwQ (nE (zN Z)) (zX Z) l t y.1 r := Classical.not_not.mp fun q => hc5 (b01_f q)
              have eA : akF (nE (zN Z)) (zX Z) y.1 y.2 l f (min (t + 1) (xnt (zX Z))) = insA (akF (nE (zN Z)) (zX Z) y.1 y.2 l f t) t (scF (nE (zN Z)) (zX Z) l f t (trF (nE (zN Z)) l y.1 y.1.1) (trF (nE (zN Z)) l y.1 y.1.1).length) := by
                rw [Nat.min_eq_left (by omega), akF, ifp_t ⟨ha, hy⟩]
              rw [Nat.min_eq_left (by omega)] at hA
              have hle := akF_le (nE (zN Z)) (zX Z) y.1 y.2 l f t
              iterate 8 refine go_s rfl rfl rfl trivial ?_
              refine go_c rfl rfl rfl (c_weightOf v3 v4 u2''.eok htn ha.1 vT (by omega)) ?_
              rintro r h0 ⟨rfl, rfl⟩
              refine go_c rfl rfl rfl (c_An_add hA (by omega) t (scF (nE (zN Z)) (zX Z) l f t (trF (nE (zN Z)) l y.1 y.1.1) (trF (nE (zN Z)) l y.1 y.1.1).length)) ?_
              rintro r h0 ⟨rfl, J7, N7, G7, rfl, m1, m2, m3, m4⟩
              exact nx J7 N7 G7 (by rw [eA]; exact m1) (fun i hi => (m2 i hi).trans (hJ i hi)) (fun i hi => (m3 i hi).trans (hN i hi)) (fun i hi => (m4 i hi).trans (hG i hi))
      exact key 40 0 (va_up J5 16 0) N G5 rfl (by rw [Nat.zero_min]; exact ⟨va_up_self _ _ _, by show 0 ≤ 40; omega, fun i hi => absurd hi (Nat.not_lt_zero i)⟩) (fun i hi => va_up_ne _ _ hi) (fun _ _ => rfl) (fun _ _ => rfl)
  · iterate 3 refine go_s rfl rfl rfl trivial ?_
    exact bad (fun q => hq q.1) _
end TI3
