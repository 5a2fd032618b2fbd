/-! ===== the class's calls: text, like, stop, ending, ask ===== -/
theorem cLst.dK {n : Nat} {f p : Nat → Nat} {J : Nat → Int32} {D D' : List am_C} (h : cLst n f p J D) (hd : dK D D') : cLst n f p J D' := by
  obtain ⟨h1, h2, h3⟩ := h
  refine ⟨h1, h2, ?_⟩
  rcases h3 with h3 | ⟨j, cap, ff, e1, e2, e3, e4, e5, e6, e7⟩
  · exact Or.inl h3
  · refine Or.inr ⟨j, cap, ff, e1, hd j _ e2 (fun x q => by cases q), e3, e4, e5, e6, fun i hi => ?_⟩
    obtain ⟨fs, q⟩ := e7 i hi
    exact ⟨fs, hd _ _ q (fun x q => by cases q)⟩
theorem cLs.p {p p' : Nat → Nat} {J : Nat → Int32} {D : List am_C} (h : cLs p J D) (hp : p' 3 = p 3) : cLs p' J D := by
  obtain ⟨n, f, h1, h2, h3⟩ := h
  refine ⟨n, f, h1, h2, ?_⟩
  rw [hp]
  exact h3
theorem stpF_o (N : tx_N) (l : Nat) (ws : Nat → List Nat) : ∀ k, (stpF N l ws k).1.2 = N.2 ∧ ∀ l', l' ≠ l → (stpF N l ws k).1.1 l' = N.1 l'
  | 0 => ⟨rfl, fun _ _ => rfl⟩
  | k + 1 => by
    obtain ⟨i1, i2⟩ := stpF_o N l ws k
    rw [stpF]
    by_cases q : ws k ∈ (stpF N l ws k).1.1 l
    · rw [ifp_t q]; exact ⟨i1, i2⟩
    · rw [ifp_f q]
      exact ⟨i1, fun l' hl' => (va_up_ne _ _ hl').trans (i2 l' hl')⟩
theorem nE_o {N N' : tx_N} {l : Nat} (h1 : N'.1 l = N.1 l) (h2 : N'.2 l = N.2 l) (w : List Nat) : nE N' l w = nE N l w := by rw [nE, nE, h1, h2]
theorem nst_ge (N : tx_N) {l : Nat} (hl : l < 3) : (N.1 l).length ≤ nst N := by
  simp only [nst]
  rcases (by omega : l = 0 ∨ l = 1 ∨ l = 2) with rfl | rfl | rfl <;> omega
section TI2
variable {L : Nat} {xs : Nat → Int32} {J : Nat → Int32} {N : Nat → Nat → Int32} {G : Nat → Nat → Int64} {U : Int64} {p : Nat → Nat} {M : Nat → am_C} {D : List am_C} {cp : Nat → Nat} {Z : tx_Z}
theorem c_TI_text (h : tx_c Z J N G U p D cp) (x f : Int32) : Do m_TI_text [.ref 6, .int x, .int f] (hC L xs J N G U p M D) (fun r h' => r = some (.int (spText Z x f).1) ∧ tiP L xs M (spText Z x f).2 D cp h') := by
  have bad : ¬ (isL x ∧ 0 ≤ f ∧ f < 4) → ∀ X3, Go m_TI_text 19 [some (.ref 6), some (.int x), some (.int f), X3, none] [] (hC L xs J N G U p M D) (fun r h' => r = some (.int (spText Z x f).1) ∧ tiP L xs M (spText Z x f).2 D cp h') := by
    intro q X3
    rw [spText, ifp_f q]
    iterate 1 refine go_s rfl rfl rfl trivial ?_
    exact go_r rfl rfl rfl trivial ⟨rfl, J, N, G, U, p, D, cp, rfl, h, dB.rf _ _⟩
  iterate 2 refine go_s rfl rfl rfl trivial ?_
  refine go_c rfl rfl rfl (c_languageOf x) ?_
  rintro r h0 ⟨⟨hq, rfl⟩ | ⟨hq, rfl⟩, rfl⟩
  · obtain ⟨l, hl, rfl⟩ := isL_nat hq
    have cl : (nI l).toNatClampNeg = l := nI_clamp (by omega)
    iterate 5 refine go_s rfl rfl rfl trivial ?_
    refine go_if (fun hc1 => bad (fun q => absurd hc1 (Int32.not_lt.mpr q.2.1)) _) (fun hc1 => ?_)
    iterate 3 refine go_s rfl rfl rfl trivial ?_
    refine go_if (fun hc2 => ?_) (fun hc2 => bad (fun q => hc2 q.2.2) _)
    obtain ⟨g, hg, rfl⟩ := nI_of hc1
    have hg4 : g < 4 := (nI_ltI (b := 4) hg (by omega)).mp hc2
    have cg : (nI g).toNatClampNeg = g := nI_clamp (by omega)
    rw [spText, ifp_t ⟨hq, Int32.not_lt.mp hc1, hc2⟩, cl, cg]
    iterate 2 refine go_s rfl rfl rfl trivial ?_
    refine go_c rfl rfl rfl (c_Ta_split h.1) ?_
    rintro r h0 ⟨rfl, J1, N1, G1, rfl, g1, g2, g3, g4⟩
    have h1 : tx_c Z J1 N1 G1 U p D cp := h.keep (fun i hi => g2 i (by omega)) (fun i hi => g3 i (by omega) (by omega)) (fun i hi => g4 i (by omega))
    obtain ⟨t1, t2, t3, t4, t5, t6, t7, t8⟩ := id h1
    iterate 7 refine go_s rfl rfl rfl trivial ?_
    refine go_c rfl rfl rfl (c_put t3 t4 t2 hl hg4 g1 (fun i hi => zw_wok Z hi)) ?_
    rintro r h0 (⟨q1, rfl, rfl⟩ | ⟨q1, rfl, J2, N2, G2, rfl, q2, q3, q4, q5, q6⟩)
    · rw [if_pos (show xnt (zX Z) = 40 ∨ 400 < sumN (xcn (zX Z)) (xnt (zX Z)) + (zw Z).1 from q1)]
      iterate 3 refine go_s rfl rfl rfl trivial ?_
      refine go_c rfl rfl rfl (c_Ta_clear J1 N1 G1) ?_
      rintro r h0 ⟨rfl, rfl⟩
      iterate 1 refine go_s rfl rfl rfl trivial ?_
      exact go_r rfl rfl rfl trivial ⟨rfl, _, N1, G1, U, p, D, cp, rfl, h1.clr, dB.rf _ _⟩
    · rw [if_neg (show ¬ (xnt (zX Z) = 40 ∨ 400 < sumN (xcn (zX Z)) (xnt (zX Z)) + (zw Z).1) from q1)]
      iterate 3 refine go_s rfl rfl rfl trivial ?_
      refine go_c rfl rfl rfl (c_Ta_clear J2 N2 G2) ?_
      rintro r h0 ⟨rfl, rfl⟩
      iterate 1 refine go_s rfl rfl rfl trivial ?_
      have h2 : tx_c (zP Z, zN Z, xadd (zX Z) l g (zw Z), Z.2.2.2) J2 N2 G2 U p D cp := ⟨t1.keep (q4 0 (by decide) (by decide)) (q5 0 (by omega)), t2.keep (fun i a b => q4 i (by omega) (by omega)) (fun i a b => q6 i (by omega) (by omega)) (fun _ _ => rfl) (fun _ _ q => q), q2, q3, t5.keep (q4 16 (by decide) (by decide)) (q5 9 (by omega)) (q6 15 (by decide) (by decide)), t6.kj (q4 17 (by decide) (by decide)) (q6 16 (by decide) (by decide)), t7, t8.kj (q4 15 (by decide) (by decide))⟩
      exact go_r rfl rfl rfl trivial ⟨rfl, _, N2, G2, U, p, D, cp, rfl, h2.clr, dB.rf _ _⟩
  · iterate 3 refine go_s rfl rfl rfl trivial ?_
    exact bad (fun q => hq q.1) _
theorem c_TI_like (h : tx_c Z J N G U p D cp) (x m : Int32) : Do m_TI_like [.ref 6, .int x, .int m] (hC L xs J N G U p M D) (fun r h' => r = some (.int (spLike Z x m).1) ∧ tiP L xs M (spLike Z x m).2 D cp h') := by
  have bad : ¬ (isL x ∧ 0 ≤ m ∧ m ≤ 3) → Go m_TI_like 17 [some (.ref 6), some (.int x), some (.int m), none, none] [] (hC L xs J N G U p M D) (fun r h' => r = some (.int (spLike Z x m).1) ∧ tiP L xs M (spLike Z x m).2 D cp h') := by
    intro q
    rw [spLike, ifp_f q]
    iterate 1 refine go_s rfl rfl rfl trivial ?_
    exact go_r rfl rfl rfl trivial ⟨rfl, J, N, G, U, p, D, cp, rfl, h, dB.rf _ _⟩
  iterate 2 refine go_s rfl rfl rfl trivial ?_
  refine go_c rfl rfl rfl (c_languageOf x) ?_
  rintro r h0 ⟨⟨hq, rfl⟩ | ⟨hq, rfl⟩, rfl⟩
  · obtain ⟨l, hl, rfl⟩ := isL_nat hq
    have cl : (nI l).toNatClampNeg = l := nI_clamp (by omega)
    iterate 3 refine go_s rfl rfl rfl trivial ?_
    refine go_if (fun hc1 => bad fun q => absurd hc1 (Int32.not_lt.mpr q.2.1)) (fun hc1 => ?_)
    iterate 3 refine go_s rfl rfl rfl trivial ?_
    refine go_if (fun hc2 => ?_) (fun hc2 => bad fun q => hc2 q.2.2)
    rw [spLike, ifp_t ⟨hq, Int32.not_lt.mp hc1, hc2⟩, cl]
    iterate 1 refine go_s rfl rfl rfl trivial ?_
    refine go_c rfl rfl rfl (c_takeFirst h) ?_
    rintro r h0 ⟨rfl, J1, N1, G1, rfl, h1⟩
    iterate 3 refine go_s rfl rfl rfl trivial ?_
    have clr : Do m_Li_clear [.ref 42] (hC L xs J1 N1 G1 U p M D) (fun r h' => r = none ∧ h' = hC L xs (va_up J1 17 0) N1 G1 U p M D) := by
      iterate 3 refine go_s rfl rfl rfl trivial ?_
      exact go_r rfl rfl rfl trivial ⟨rfl, rfl⟩
    refine go_c rfl rfl rfl clr ?_
    rintro r h0 ⟨rfl, rfl⟩
    obtain ⟨t1, t2, t3, t4, t5, t6, t7, t8⟩ := h1
    have k17 : ∀ i, i ≠ 17 → va_up J1 17 0 i = J1 i := fun i a => va_up_ne _ _ a
    have h2 : tx_c (((zP Z).1, 0), zN Z, zX Z, zA Z, (0, fun _ => []), zS Z) (va_up J1 17 0) N1 G1 U p D cp := ⟨t1.keep (k17 0 (by decide)) rfl, t2.keep (fun i a b => k17 i (by omega)) (fun _ _ _ => rfl) (fun _ _ => rfl) (fun _ _ q => q), t3.keep (k17 8 (by decide)) (k17 9 (by decide)) (fun _ _ _ => rfl) rfl, t4, t5.keep (k17 16 (by decide)) rfl rfl, ⟨rfl, Nat.zero_le _, fun i hi => absurd hi (Nat.not_lt_zero i)⟩, t7, t8.kj (k17 15 (by decide))⟩
    by_cases hz : (zw Z).1 = 0
    · rw [if_pos hz, if_neg (show ¬ 0 < (zw Z).1 by omega)]
      iterate 4 refine go_s rfl rfl rfl trivial ?_
      refine go_if (fun hc => absurd ((lg_cmp_eq _ _).mpr rfl) hc) (fun _ => ?_)
      iterate 1 refine go_s rfl rfl rfl trivial ?_
      exact go_r rfl rfl rfl trivial ⟨rfl, _, N1, G1, U, p, D, cp, rfl, h2, dB.rf _ _⟩
    · rw [if_neg hz, if_pos (show 0 < (zw Z).1 by omega)]
      have hwk := zw_wok Z (i := 0) (by omega)
      iterate 4 refine go_s rfl rfl rfl trivial ?_
      refine go_if (fun _ => ?_) (fun hc => ?_)
      · obtain ⟨u1, u2, u3, u4, u5, u6, u7, u8⟩ := id h2
        iterate 7 refine go_s rfl rfl rfl trivial ?_
        refine go_c rfl rfl rfl (c_search u3 u4 u2.eok hl hwk.o rfl) ?_
        rintro r h0 ⟨rfl, J2, N2, G2, rfl, g1, g2, g3, g4⟩
        iterate 2 refine go_s rfl rfl rfl trivial ?_
        have cnt' : Do m_Li_count [.ref 42] (hC L xs J2 N2 G2 U p M D) (fun r h' => r = some (.int (J2 17)) ∧ h' = hC L xs J2 N2 G2 U p M D) := by
          iterate 2 refine go_s rfl rfl rfl trivial ?_
          exact go_r rfl rfl rfl trivial ⟨rfl, rfl⟩
        refine go_c rfl rfl rfl cnt' ?_
        rintro r h0 ⟨rfl, rfl⟩
        refine go_r rfl rfl rfl trivial ⟨?_, J2, N2, G2, U, p, D, cp, rfl, ⟨u1.keep (g2 0 (by decide) (by decide)) (g3 0 (by decide)), u2.keep (fun i a b => g2 i (by omega) (by omega)) (fun i a b => g4 i (by omega)) (fun _ _ => rfl) (fun _ _ q => q), u3.keep (g2 8 (by decide) (by decide)) (g2 9 (by decide) (by decide)) (fun i a b => g3 i (by omega)) (g4 10 (by decide)), u4.keep (g4 11 (by decide)), u5.keep (g2 16 (by decide) (by decide)) (g3 9 (by decide)) (g4 15 (by decide)), ⟨g1.1, g1.2.1, fun i hi => ⟨(g1.2.2 i hi).1, (g1.2.2 i hi).2.1⟩⟩, u7, u8.kj (g2 15 (by decide) (by decide))⟩, dB.rf _ _⟩
        rw [g1.1]
      · have := (encZ hwk.o).mp ((lg_cmp_eq _ _).mp (Classical.not_not.mp hc))
        have h0 := hwk.1
        rw [this] at h0
        exact absurd h0 (by decide)
  · iterate 1 refine go_s rfl rfl rfl trivial ?_
    exact bad fun q => hq q.1
theorem c_TI_stop (h : tx_c Z J N G U p D cp) (hroom : nst (zN Z) + 48 ≤ 2000) (x : Int32) : Do m_TI_stop [.ref 6, .int x] (hC L xs J N G U p M D) (fun r h' => r = some (.int (spStop Z x).1) ∧ tiP L xs M (spStop Z x).2 D cp h') := by
  iterate 2 refine go_s rfl rfl rfl trivial ?_
  refine go_c rfl rfl rfl (c_languageOf x) ?_
  rintro r h0 ⟨⟨hq, rfl⟩ | ⟨hq, rfl⟩, rfl⟩
  · obtain ⟨l, hl, rfl⟩ := isL_nat hq
    have cl : (nI l).toNatClampNeg = l := nI_clamp (by omega)
    rw [spStop, ifp_t hq, cl]
    iterate 5 refine go_s rfl rfl rfl trivial ?_
    refine go_c rfl rfl rfl (c_Ta_split h.1) ?_
    rintro r h0 ⟨rfl, J1, N1, G1, rfl, g1, g2, g3, g4⟩
    have h1 : tx_c Z J1 N1 G1 U p D cp := h.keep (fun i hi => g2 i (by omega)) (fun i hi => g3 i (by omega) (by omega)) (fun i hi => g4 i (by omega))
    obtain ⟨t1, t2, t3, t4, t5, t6, t7, t8⟩ := id h1
    have z48 : (zw Z).1 ≤ 48 := g1.2.1
    have key : ∀ (d k : Nat) (J2 : Nat → Int32) (G2 : Nat → Nat → Int64) (p2 : Nat → Nat) (D2 : List am_C) (cp2 : Nat → Nat), (zw Z).1 = k + d → cN (stpF (zN Z) l (zw Z).2.2.1 k).1 J2 G2 p2 D2 cp2 → (∀ i, i ≠ 5 + l → J2 i = J1 i) → (∀ i, i < 7 ∨ 9 < i → G2 i = G1 i) → p2 3 = p 3 → dK D D2 → (am_sz D2 + 2 * (cp 0 + cp 1 + cp 2) ≤ am_sz D + 2 * (cp2 0 + cp2 1 + cp2 2) ∧ D2.length + (cp 0 + cp 1 + cp 2) ≤ D.length + (cp2 0 + cp2 1 + cp2 2)) →
        Go m_TI_stop 26 [some (.ref 6), some (.int (nI l)), some (.ref (13 + 4 * l)), some (.int (nI (zw Z).1)), some (.int (nI (stpF (zN Z) l (zw Z).2.2.1 k).2)), some (.int (nI k))] [] (hC L xs J2 N1 G2 U p2 M D2) (fun r h' => r = some (.int (nI (stpF (zN Z) l (zw Z).2.2.1 (zw Z).1).2)) ∧ tiP L xs M (((zP Z).1, 0), (stpF (zN Z) l (zw Z).2.2.1 (zw Z).1).1, Z.2.2) D cp h') := by
      intro d
      induction d with
      | zero =>
        intro k J2 G2 p2 D2 cp2 hk hN hJ hG hp hD hB
        have ek : k = (zw Z).1 := by omega
        subst ek
        obtain ⟨o1, o2⟩ := stpF_o (zN Z) l (zw Z).2.2.1 (zw Z).1
        iterate 3 refine go_s rfl rfl rfl trivial ?_
        refine go_if (fun _ => ?_) (fun hc => absurd (Int32.le_refl _) hc)
        iterate 2 refine go_s rfl rfl rfl trivial ?_
        refine go_c rfl rfl rfl (c_Ta_clear J2 N1 G2) ?_
        rintro r h0 ⟨rfl, rfl⟩
        have k0 : ∀ i, i ≠ 0 → i ≠ 1 → va_up (va_up J2 0 0) 1 0 i = J2 i := fun i a b => (va_up_ne _ _ b).trans (va_up_ne _ _ a)
        have hX2 : cXs (zX Z) (va_up (va_up J2 0 0) 1 0) N1 G2 := t3.keep ((k0 8 (by decide) (by decide)).trans (hJ 8 (by omega))) ((k0 9 (by decide) (by decide)).trans (hJ 9 (by omega))) (fun _ _ _ => rfl) (hG 10 (by omega))
        have hN2 : cN (stpF (zN Z) l (zw Z).2.2.1 (zw Z).1).1 (va_up (va_up J2 0 0) 1 0) G2 p2 D2 cp2 := hN.keep (fun i a b => k0 i (by omega) (by omega)) (fun _ _ _ => rfl) (fun _ _ => rfl) (fun _ _ q => q)
        iterate 3 refine go_s rfl rfl rfl trivial ?_
        have hsA : sAg (zX Z) (stpF (zN Z) l (zw Z).2.2.1 (zw Z).1).1 l 0 0 G2 := by
          intro t ht l' hl' q hq g
          rw [hG 11 (by omega), t4 t ht l' hl' q hq]
          rcases g with g | g | g
          · rw [nE_o (o2 l' g) (congrFun o1 l')]
          · omega
          · omega
        refine go_c rfl rfl rfl (c_stemAgain hX2 hN2 hl hsA) ?_
        rintro r h0 ⟨rfl, G3, rfl, s1, s2⟩
        iterate 1 refine go_s rfl rfl rfl trivial ?_
        have hb : cLs p2 (va_up (va_up J2 0 0) 1 0) D2 := by
          obtain ⟨n, f, hf⟩ := t8
          exact (cLs.p (p := p) ⟨n, f, (hf.dK hD).kj ((k0 15 (by decide) (by decide)).trans (hJ 15 (by omega)))⟩ hp)
        exact go_r rfl rfl rfl trivial ⟨rfl, _, N1, G3, U, p2, D2, cp2, rfl, ⟨⟨(va_up_ne _ _ (by decide)).trans (va_up_self _ _ _), by show 0 ≤ 96; omega, fun j hj => absurd hj (Nat.not_lt_zero j)⟩, hN2.g (fun i hi => s2 i (by omega)), hX2.keep rfl rfl (fun _ _ _ => rfl) (s2 10 (by decide)), s1, t5.keep ((k0 16 (by decide) (by decide)).trans (hJ 16 (by omega))) rfl ((s2 15 (by decide)).trans (hG 15 (by omega))), t6.kj ((k0 17 (by decide) (by decide)).trans (hJ 17 (by omega))) ((s2 16 (by decide)).trans (hG 16 (by omega))), t7, hb⟩, ⟨by omega, by omega⟩⟩
      | succ d ih =>
        intro k J2 G2 p2 D2 cp2 hk hN hJ hG hp hD hB
        have hz2 : cW (wst (zP Z).1 (zP Z).2) J2 N1 G2 := g1.keep (hJ 1 (by omega)) (fun _ _ => rfl) (hG 0 (by omega))
        have hwk := zw_wok Z (i := k) (by omega)
        obtain ⟨sl1, sl2⟩ := stpF_le (zN Z) hl (zw Z).2.2.1 k
        have hlen := nst_ge (stpF (zN Z) l (zw Z).2.2.1 k).1 hl
        obtain ⟨-, q0⟩ := hN.q (L := L) (xs := xs) (N := N1) (U := U) (M := M) hl
        obtain ⟨eB, iB, sB, capB, feB, fiB, fsB, hoB, hdB⟩ := q0
        iterate 3 refine go_s rfl rfl rfl trivial ?_
        refine go_if (fun hc => absurd hc (nI_ge (by omega) (by omega))) (fun _ => ?_)
        iterate 4 refine go_s rfl rfl rfl trivial ?_
        refine go_c rfl rfl rfl (c_Ta_wordAt hz2 (k := k) (by omega)) ?_
        rintro r h0 ⟨rfl, rfl⟩
        rw [if_pos (show k < (wst (zP Z).1 (zP Z).2).1 from (by show k < (zw Z).1; omega))]
        refine go_c rfl rfl (call_v rfl hoB.1 (by omega) rfl rfl) (c_addStop hN hl hwk (by omega)) ?_
        rintro r h0 (⟨m1, rfl, rfl⟩ | ⟨m1, rfl, J3, G3, p3, D3, cp3, rfl, m2, m3, m4, m5, m6, m7, m8⟩)
        · have e : stpF (zN Z) l (zw Z).2.2.1 (k + 1) = stpF (zN Z) l (zw Z).2.2.1 k := by
            have m1' : (zw Z).2.2.1 k ∈ (stpF (zN Z) l (zw Z).2.2.1 k).1.1 l := m1
            rw [stpF, ifp_t m1']
          iterate 1 refine go_s rfl rfl rfl trivial ?_
          refine go_if (fun _ => ?_) (fun hc => absurd rfl hc)
          iterate 2 refine go_s rfl rfl rfl trivial ?_
          rw [nI_1]
          have := ih (k + 1) J2 G2 p2 D2 cp2 (by omega) (by rw [e]; exact hN) hJ hG hp hD hB
          rw [e] at this
          exact this
        · have e : stpF (zN Z) l (zw Z).2.2.1 (k + 1) = ((va_up (stpF (zN Z) l (zw Z).2.2.1 k).1.1 l ((stpF (zN Z) l (zw Z).2.2.1 k).1.1 l ++ [(zw Z).2.2.1 k]), (stpF (zN Z) l (zw Z).2.2.1 k).1.2), (stpF (zN Z) l (zw Z).2.2.1 k).2 + 1) := by
            have m1' : ¬ (zw Z).2.2.1 k ∈ (stpF (zN Z) l (zw Z).2.2.1 k).1.1 l := m1
            rw [stpF, ifp_f m1']
          iterate 1 refine go_s rfl rfl rfl trivial ?_
          refine go_if (fun hc => absurd hc (by decide)) (fun _ => ?_)
          iterate 1 refine go_s rfl rfl rfl trivial ?_
          rw [nI_1]
          iterate 2 refine go_s rfl rfl rfl trivial ?_
          rw [nI_1]
          have := ih (k + 1) J3 G3 p3 D3 cp3 (by omega) (by rw [e]; exact m2) (fun i hi => (m3 i hi).trans (hJ i hi)) (fun i hi => (m4 i hi).trans (hG i hi)) (m5.trans hp) (fun j c a b => m6 j c (hD j c a b) b) ⟨by omega, by omega⟩
          rw [show (stpF (zN Z) l (zw Z).2.2.1 (k + 1)).2 = (stpF (zN Z) l (zw Z).2.2.1 k).2 + 1 by rw [e]] at this
          exact this
    iterate 5 refine go_s rfl rfl rfl trivial ?_
    exact key (zw Z).1 0 J1 G1 p D cp (by omega) t2 (fun _ _ => rfl) (fun _ _ => rfl) rfl (dK.rf D) ⟨Nat.le_refl _, Nat.le_refl _⟩
  · rw [spStop, ifp_f hq]
    iterate 4 refine go_s rfl rfl rfl trivial ?_
    exact go_r rfl rfl rfl trivial ⟨rfl, J, N, G, U, p, D, cp, rfl, h, dB.rf _ _⟩
end TI2
