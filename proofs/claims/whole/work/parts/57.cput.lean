/-! ===== the class's shelf: a text more, stems anew ===== -/
def sAg (X : tx_X) (Nn : tx_N) (l t k : Nat) (G : Nat → Nat → Int64) : Prop := ∀ t', t' < xnt X → ∀ l', xlg X t' = some l' → ∀ q, q < xcn X t' → (l' ≠ l ∨ t' < t ∨ (t' = t ∧ q < k)) → G 11 (stX X t' + q) = lN (encO (nE Nn l' (xwd X t' q)))
theorem stX_add (X : tx_X) (l f : Nat) (z : wS) : ∀ t, t ≤ xnt X → stX (xadd X l f z) t = stX X t
  | 0, _ => rfl
  | t + 1, h => by
    rw [stX_s, stX_s, stX_add X l f z t (by omega)]
    show stX X t + va_up (xcn X) (xnt X) z.1 t = _
    rw [va_up_ne _ _ (by omega)]
theorem stX_add1 (X : tx_X) (l f : Nat) (z : wS) : stX (xadd X l f z) (xnt X + 1) = stX X (xnt X) + z.1 := by
  rw [stX_s, stX_add X l f z _ (Nat.le_refl _)]
  show stX X (xnt X) + va_up (xcn X) (xnt X) z.1 (xnt X) = _
  rw [va_up_self]
section SHELF3
variable {L : Nat} {xs : Nat → Int32} {J : Nat → Int32} {N : Nat → Nat → Int32} {G : Nat → Nat → Int64} {U : Int64} {p : Nat → Nat} {M : Nat → am_C} {D : List am_C} {X : tx_X} {Nn : tx_N} {cp : Nat → Nat}
theorem c_La_number {h : List am_C} {a : Nat} {x : Int32} {fs : List Value} (hr : am_get h a = some (.inr (2, .int x :: fs))) : Do m_La_number [.ref a] h (fun r h' => r = some (.int x) ∧ h' = h) := by
  iterate 1 refine go_s rfl rfl rfl trivial ?_
  refine go_s rfl rfl (s_gf hr rfl) trivial ?_
  exact go_r rfl rfl rfl trivial ⟨rfl, rfl⟩
theorem cN.g {G' : Nat → Nat → Int64} (h : cN Nn J G p D cp) (hG : ∀ i, i < 10 → G' i = G i) : cN Nn J G' p D cp := h.keep (fun _ _ _ => rfl) (fun i _ b => hG i (by omega)) (fun _ _ => rfl) (fun _ _ q => q)
theorem c_stemAgain (h : cXs X J N G) (hN : cN Nn J G p D cp) {l : Nat} (hl : l < 3) (hs : sAg X Nn l 0 0 G) : Do m_Sh_stemAgain [.ref 25, .ref (13 + 4 * l)] (hC L xs J N G U p M D) (fun r h' => r = none ∧ ∃ G', h' = hC L xs J N G' U p M D ∧ cXt X G' (nE Nn) ∧ ∀ i, i ≠ 11 → G' i = G i) := by
  have a3 := h.2.2.1
  have key : ∀ (d t : Nat) (X3 X4 : Option Value) (G1 : Nat → Nat → Int64), xnt X = t + d → (∀ i, i ≠ 11 → G1 i = G i) → sAg X Nn l t 0 G1 → Go m_Sh_stemAgain 2 [some (.ref 25), some (.ref (13 + 4 * l)), some (.int (nI t)), X3, X4] [] (hC L xs J N G1 U p M D) (fun r h' => r = none ∧ ∃ G', h' = hC L xs J N G' U p M D ∧ cXt X G' (nE Nn) ∧ ∀ i, i ≠ 11 → G' i = G i) := by
    intro d
    induction d with
    | zero =>
      intro t X3 X4 G1 ht hG hs1
      have et : t = xnt X := by omega
      subst et
      iterate 3 refine go_s rfl rfl rfl trivial ?_
      rw [h.1]
      iterate 1 refine go_s rfl rfl rfl trivial ?_
      refine go_if (fun _ => ?_) (fun hc => absurd (Int32.le_refl _) hc)
      exact go_r rfl rfl rfl trivial ⟨rfl, G1, rfl, fun t' ht' l' hl' q hq => hs1 t' ht' l' hl' q hq (Or.inr (Or.inl ht')), hG⟩
    | succ d ih =>
      intro t X3 X4 G1 ht hG hs1
      have h1 : cXs X J N G1 := h.keep rfl rfl (fun _ _ _ => rfl) (hG 10 (by decide))
      have hN1 : cN Nn J G1 p D cp := hN.g (fun i hi => hG i (by omega))
      have nx : ∀ (G2 : Nat → Nat → Int64) (Y3 Y4 : Option Value), (∀ i, i ≠ 11 → G2 i = G i) → sAg X Nn l (t + 1) 0 G2 → Go m_Sh_stemAgain 70 [some (.ref 25), some (.ref (13 + 4 * l)), some (.int (nI t)), Y3, Y4] [] (hC L xs J N G2 U p M D) (fun r h' => r = none ∧ ∃ G', h' = hC L xs J N G' U p M D ∧ cXt X G' (nE Nn) ∧ ∀ i, i ≠ 11 → G' i = G i) := by
        intro G2 Y3 Y4 hG2 hs2
        iterate 2 refine go_s rfl rfl rfl trivial ?_
        rw [nI_1]
        exact ih (t + 1) Y3 Y4 G2 (by omega) hG2 hs2
      obtain ⟨-, q0⟩ := hN1.q (L := L) (xs := xs) (N := N) (U := U) (M := M) hl
      obtain ⟨eA, iA, sA, capA, feA, fiA, fsA, hoA, hdA⟩ := q0
      iterate 3 refine go_s rfl rfl rfl trivial ?_
      rw [h.1]
      iterate 1 refine go_s rfl rfl rfl trivial ?_
      refine go_if (fun hc => absurd hc (nI_ge (by omega) (by omega))) (fun _ => ?_)
      iterate 3 refine go_s rfl rfl rfl trivial ?_
      refine go_c rfl rfl (call_v rfl hoA.1 (by omega) rfl rfl) (c_La_number hoA.1) ?_
      rintro r h2 ⟨rfl, rfl⟩
      iterate 1 refine go_s rfl rfl rfl trivial ?_
      refine go_c rfl rfl rfl (c_isIn1 h1 (t := t) (by omega) hl) ?_
      rintro r h2 ⟨rfl, rfl⟩
      iterate 1 refine go_s rfl rfl rfl trivial ?_
      refine go_if (fun hc => ?_) (fun hc => ?_)
      · have hn : ¬ xlg X t = some l := fun q => b01_eq0.mp hc ⟨by omega, q⟩
        iterate 4 refine go_s rfl rfl rfl trivial ?_
        refine go_c rfl rfl rfl (c_firstOf h1 (t := t) (by omega)) ?_
        rintro r h2 ⟨rfl, rfl⟩
        have hf400 : fsT X t ≤ 400 := by
          have := stX_le X (t := t) (n := xnt X) (by omega)
          have := h.2.2.2.1
          rw [fsT]
          by_cases q : hereT X t
          · rw [ifp_t q]; omega
          · rw [ifp_f q]; omega
        iterate 4 refine go_s rfl rfl rfl trivial ?_
        refine go_if (fun _ => ?_) (fun hc1 => absurd (nI_pos' (by omega)) hc1)
        refine nx G1 _ _ hG (fun t' ht' l' hl' q hq g => hs1 t' ht' l' hl' q hq ?_)
        rcases g with g | g | g
        · exact Or.inl g
        · by_cases e : t' = t
          · subst e
            left
            intro e2
            rw [e2] at hl'
            exact hn hl'
          · exact Or.inr (Or.inl (by omega))
        · omega
      · obtain ⟨-, hlt⟩ : t < xnt X ∧ xlg X t = some l := Classical.not_not.mp fun q => hc (b01_f q)
        obtain ⟨t40, -, c48, b400, e1, e2, hw⟩ := h.of (t := t) (by omega) hlt
        iterate 2 refine go_s rfl rfl rfl trivial ?_
        refine go_c rfl rfl rfl (c_endOf h1 (t := t) (by omega)) ?_
        rintro r h2 ⟨rfl, rfl⟩
        iterate 4 refine go_s rfl rfl rfl trivial ?_
        refine go_c rfl rfl rfl (c_firstOf h1 (t := t) (by omega)) ?_
        rintro r h2 ⟨rfl, rfl⟩
        rw [e1, e2]
        iterate 1 refine go_s rfl rfl rfl trivial ?_
        have inner : ∀ (d k : Nat) (G2 : Nat → Nat → Int64), xcn X t = k + d → (∀ i, i ≠ 11 → G2 i = G i) → sAg X Nn l t k G2 → Go m_Sh_stemAgain 40 [some (.ref 25), some (.ref (13 + 4 * l)), some (.int (nI t)), some (.int (nI (stX X t + xcn X t))), some (.int (nI (stX X t + k)))] [] (hC L xs J N G2 U p M D) (fun r h' => r = none ∧ ∃ G', h' = hC L xs J N G' U p M D ∧ cXt X G' (nE Nn) ∧ ∀ i, i ≠ 11 → G' i = G i) := by
          intro d
          induction d with
          | zero =>
            intro k G2 hk hG2 hs2
            have ek : k = xcn X t := by omega
            subst ek
            iterate 3 refine go_s rfl rfl rfl trivial ?_
            refine go_if (fun _ => ?_) (fun hc1 => absurd (Int32.le_refl _) hc1)
            refine nx G2 _ _ hG2 (fun t' ht' l' hl' q hq g => hs2 t' ht' l' hl' q hq ?_)
            rcases g with g | g | g
            · exact Or.inl g
            · by_cases e : t' = t
              · subst e; exact Or.inr (Or.inr ⟨rfl, hq⟩)
              · exact Or.inr (Or.inl (by omega))
            · omega
          | succ d ih2 =>
            intro k G2 hk hG2 hs2
            have ck : (nI (stX X t + k)).toNatClampNeg = stX X t + k := nI_clamp (by omega)
            have hN2 : cN Nn J G2 p D cp := hN.g (fun i hi => hG2 i (by omega))
            have hq2 := hN2.q (L := L) (xs := xs) (N := N) (U := U) (M := M) hl
            obtain ⟨-, q0⟩ := id hq2
            obtain ⟨eB, iB, sB, capB, feB, fiB, fsB, hoB, hdB⟩ := q0
            obtain ⟨ew, hwk⟩ := hw k (by omega)
            iterate 3 refine go_s rfl rfl rfl trivial ?_
            refine go_if (fun hc1 => absurd hc1 (nI_ge (by omega) (by omega))) (fun _ => ?_)
            iterate 7 refine go_s rfl rfl rfl trivial ?_
            refine go_s rfl rfl rfl ?_ ?_
            · exact vp_in_nI (by omega) (by omega)
            rw [ck, hG2 10 (by decide), ew]
            refine go_c rfl rfl (call_v rfl hoB.1 (by omega) rfl rfl) (c_stemInTexts hq2 hwk.o) ?_
            rintro r h2 ⟨rfl, rfl⟩
            refine go_s rfl rfl rfl ?_ ?_
            · exact vp_in_nI (by omega) (by omega)
            rw [ck]
            iterate 2 refine go_s rfl rfl rfl trivial ?_
            rw [nI_1]
            refine ih2 (k + 1) (va_up G2 11 (vp_updL (G2 11) (stX X t + k) (lN (encO (nE Nn l (xwd X t k)))))) (by omega) (fun i hi => (va_up_ne _ _ hi).trans (hG2 i hi)) (fun t' ht' l' hl' q hq g => ?_)
            rw [va_up_self]
            by_cases e : t' = t ∧ q = k
            · obtain ⟨e3, e4⟩ := e
              subst e3 e4
              rw [pk_uLs]
              rw [hlt] at hl'
              cases hl'
              rfl
            · have hne : stX X t' + q ≠ stX X t + k := fun q2 => e (stX_inj X (t := t) (t' := t') (by omega) hq q2)
              rw [pk_uLn hne]
              refine hs2 t' ht' l' hl' q hq ?_
              rcases g with g | g | g
              · exact Or.inl g
              · exact Or.inr (Or.inl g)
              · exact Or.inr (Or.inr ⟨g.1, by omega⟩)
        exact inner (xcn X t) 0 G1 (by omega) hG hs1
  iterate 2 refine go_s rfl rfl rfl trivial ?_
  exact key (xnt X) 0 _ _ G (by omega) (fun _ _ => rfl) hs
theorem cW.keep {z : wS} {J' : Nat → Int32} {N' : Nat → Nat → Int32} {G' : Nat → Nat → Int64} (h : cW z J N G) (h1 : J' 1 = J 1) (hN : ∀ i, i < 3 → N' i = N i) (hG : G' 0 = G 0) : cW z J' N' G' := by
  obtain ⟨a1, a2, a3⟩ := h
  exact ⟨h1.trans a1, a2, fun i hi => by rw [hG, hN 1 (by omega), hN 2 (by omega)]; exact a3 i hi⟩
/-- the shelf while words come: S where they begin, k of them -/
def cPu (X : tx_X) (Nn : tx_N) (l fd k : Nat) (z : wS) (J : Nat → Int32) (N : Nat → Nat → Int32) (G : Nat → Nat → Int64) (J1 : Nat → Int32) (N1 : Nat → Nat → Int32) (G1 : Nat → Nat → Int64) : Prop := J1 9 = nI (stX X (xnt X) + k) ∧ (∀ i, i ≠ 9 → J1 i = J i) ∧ (N1 3 = upd (N 3) (xnt X) (nI l) ∧ N1 4 = upd (N 4) (xnt X) (nI fd) ∧ N1 6 = upd (N 6) (xnt X) (nI (stX X (xnt X))) ∧ N1 5 = N 5) ∧ (∀ i, i < 3 ∨ 8 < i → N1 i = N i) ∧ (∀ i, i ≠ 10 → i ≠ 11 → G1 i = G i) ∧ (∀ a, a < stX X (xnt X) → G1 10 a = G 10 a ∧ G1 11 a = G 11 a ∧ N1 7 a = N 7 a ∧ N1 8 a = N 8 a) ∧ ∀ j, j < k → G1 10 (stX X (xnt X) + j) = lN (enc (z.2.2.1 j)) ∧ G1 11 (stX X (xnt X) + j) = lN (encO (nE Nn l (z.2.2.1 j))) ∧ N1 7 (stX X (xnt X) + j) = nI (z.2.2.2.1 j) ∧ N1 8 (stX X (xnt X) + j) = nI (z.2.2.2.2 j)
theorem c_put {l fd : Nat} {z : wS} (h : cXs X J N G) (hs : cXt X G (nE Nn)) (hN : cN Nn J G p D cp) (hl : l < 3) (hfd : fd < 4) (hz : cW z J N G) (hwok : ∀ i, i < z.1 → wok (z.2.2.1 i)) : Do m_Sh_put [.ref 25, .ref (13 + 4 * l), .int (nI fd), .ref 7] (hC L xs J N G U p M D) (fun r h' => ((xnt X = 40 ∨ 400 < stX X (xnt X) + z.1) ∧ r = some (.int (-3)) ∧ h' = hC L xs J N G U p M D) ∨ (¬ (xnt X = 40 ∨ 400 < stX X (xnt X) + z.1) ∧ r = some (.int (nI (xnt X))) ∧ ∃ J' N' G', h' = hC L xs J' N' G' U p M D ∧ cXs (xadd X l fd z) J' N' G' ∧ cXt (xadd X l fd z) G' (nE Nn) ∧ (∀ i, i ≠ 8 → i ≠ 9 → J' i = J i) ∧ (∀ i, i < 3 ∨ 8 < i → N' i = N i) ∧ ∀ i, i ≠ 10 → i ≠ 11 → G' i = G i)) := by
  obtain ⟨a1, a2, a3, a4, a5, a6, a7⟩ := id h
  have z48 := hz.2.1
  have full : (xnt X = 40 ∨ 400 < stX X (xnt X) + z.1) → Go m_Sh_put 24 [some (.ref 25), some (.ref (13 + 4 * l)), some (.int (nI fd)), some (.ref 7), none, none] [] (hC L xs J N G U p M D) (fun r h' => ((xnt X = 40 ∨ 400 < stX X (xnt X) + z.1) ∧ r = some (.int (-3)) ∧ h' = hC L xs J N G U p M D) ∨ (¬ (xnt X = 40 ∨ 400 < stX X (xnt X) + z.1) ∧ r = some (.int (nI (xnt X))) ∧ ∃ J' N' G', h' = hC L xs J' N' G' U p M D ∧ cXs (xadd X l fd z) J' N' G' ∧ cXt (xadd X l fd z) G' (nE Nn) ∧ (∀ i, i ≠ 8 → i ≠ 9 → J' i = J i) ∧ (∀ i, i < 3 ∨ 8 < i → N' i = N i) ∧ ∀ i, i ≠ 10 → i ≠ 11 → G' i = G i)) := by
    intro q
    iterate 1 refine go_s rfl rfl rfl trivial ?_
    exact go_r rfl rfl rfl trivial (Or.inl ⟨q, rfl, rfl⟩)
  obtain ⟨-, q0⟩ := hN.q (L := L) (xs := xs) (N := N) (U := U) (M := M) hl
  obtain ⟨eA, iA, sA, capA, feA, fiA, fsA, hoA, hdA⟩ := q0
  have cn : (nI (xnt X)).toNatClampNeg = xnt X := nI_clamp (by omega)
  iterate 2 refine go_s rfl rfl rfl trivial ?_
  rw [a1]
  iterate 2 refine go_s rfl rfl rfl trivial ?_
  refine go_if (fun hc => full (Or.inl ?_)) (fun hc => ?_)
  · have := (nI_leI (a := 40) (b := xnt X) (by omega) (by omega)).mp hc
    omega
  have hlt : xnt X < 40 := Nat.lt_of_not_le fun q => hc ((nI_leI (a := 40) (b := xnt X) (by omega) (by omega)).mpr q)
  iterate 2 refine go_s rfl rfl rfl trivial ?_
  rw [a2]
  iterate 1 refine go_s rfl rfl rfl trivial ?_
  refine go_c rfl rfl rfl (c_Ta_wordCount hz) ?_
  rintro r h1 ⟨rfl, rfl⟩
  iterate 1 refine go_s rfl rfl rfl trivial ?_
  rw [nI_add]
  iterate 2 refine go_s rfl rfl rfl trivial ?_
  refine go_if (fun hc1 => ?_) (fun hc1 => full (Or.inr (Nat.lt_of_not_le fun q => hc1 ((nI_leI (a := stX X (xnt X) + z.1) (b := 400) (by omega) (by omega)).mpr q))))
  have hle400 := (nI_leI (a := stX X (xnt X) + z.1) (b := 400) (by omega) (by omega)).mp hc1
  have key : ∀ (d k : Nat) (J1 : Nat → Int32) (N1 : Nat → Nat → Int32) (G1 : Nat → Nat → Int64), z.1 = k + d → cPu X Nn l fd k z J N G J1 N1 G1 → Go m_Sh_put 66 [some (.ref 25), some (.ref (13 + 4 * l)), some (.int (nI fd)), some (.ref 7), some (.int (nI (xnt X))), some (.int (nI k))] [] (hC L xs J1 N1 G1 U p M D) (fun r h' => ((xnt X = 40 ∨ 400 < stX X (xnt X) + z.1) ∧ r = some (.int (-3)) ∧ h' = hC L xs J N G U p M D) ∨ (¬ (xnt X = 40 ∨ 400 < stX X (xnt X) + z.1) ∧ r = some (.int (nI (xnt X))) ∧ ∃ J' N' G', h' = hC L xs J' N' G' U p M D ∧ cXs (xadd X l fd z) J' N' G' ∧ cXt (xadd X l fd z) G' (nE Nn) ∧ (∀ i, i ≠ 8 → i ≠ 9 → J' i = J i) ∧ (∀ i, i < 3 ∨ 8 < i → N' i = N i) ∧ ∀ i, i ≠ 10 → i ≠ 11 → G' i = G i)) := by
    intro d
    induction d with
    | zero =>
      intro k J1 N1 G1 hk hP
      have ek : k = z.1 := by omega
      subst ek
      obtain ⟨b1, b2, ⟨b3, b4, b6, b5⟩, bN, bG, bold, bnew⟩ := hP
      have hz1 : cW z J1 N1 G1 := hz.keep (b2 1 (by decide)) (fun i hi => bN i (Or.inl hi)) (bG 0 (by decide) (by decide))
      have b8 : J1 8 = nI (xnt X) := (b2 8 (by decide)).trans a1
      have cn1 : (nI (xnt X + 1)).toNatClampNeg = xnt X + 1 := nI_clamp (by omega)
      iterate 2 refine go_s rfl rfl rfl trivial ?_
      refine go_c rfl rfl rfl (c_Ta_wordCount hz1) ?_
      rintro r h1 ⟨rfl, rfl⟩
      iterate 1 refine go_s rfl rfl rfl trivial ?_
      refine go_if (fun _ => ?_) (fun hc2 => absurd (Int32.le_refl _) hc2)
      iterate 3 refine go_s rfl rfl rfl trivial ?_
      rw [b8]
      iterate 2 refine go_s rfl rfl rfl trivial ?_
      rw [nI_1]
      iterate 1 refine go_s rfl rfl rfl trivial ?_
      change Go m_Sh_put 175 _ _ (hC L xs (va_up J1 8 (nI (xnt X + 1))) N1 G1 U p M D) _
      iterate 6 refine go_s rfl rfl rfl trivial ?_
      change Go m_Sh_put 187 _ [.int (va_up J1 8 (nI (xnt X + 1)) 9), .int (va_up J1 8 (nI (xnt X + 1)) 8), .ref 29] _ _
      rw [va_up_self, va_up_ne _ _ (show (9 : Nat) ≠ 8 by decide), b1]
      refine go_s rfl rfl rfl ?_ ?_
      · exact vp_in_nI (by omega) (by omega)
      simp only [cn1]
      iterate 1 refine go_s rfl rfl rfl trivial ?_
      refine go_r rfl rfl rfl trivial (Or.inr ⟨by omega, rfl, va_up J1 8 (nI (xnt X + 1)), va_up N1 6 (upd (N1 6) (xnt X + 1) (nI (stX X (xnt X) + z.1))), G1, rfl, ⟨va_up_self _ _ _, ?_, hlt, ?_, ?_, fun t ht => ?_, fun t ht => ?_⟩, fun t ht l' hl' q hq => ?_, fun i h8 h9 => (va_up_ne _ _ h8).trans (b2 i h9), fun i hi => (va_up_ne _ _ (by omega)).trans (bN i hi), bG⟩)
      · rw [va_up_ne _ _ (by decide), b1]
        exact congrArg nI (stX_add1 X l fd z).symm
      · show stX (xadd X l fd z) (xnt X + 1) ≤ 400
        rw [stX_add1]
        exact hle400
      · show va_up N1 6 (upd (N1 6) (xnt X + 1) (nI (stX X (xnt X) + z.1))) 6 (xnt X + 1) = nI (stX (xadd X l fd z) (xnt X + 1))
        rw [va_up_self, pk_us, stX_add1]
      · rw [va_up_ne _ _ (by decide), b5]
        have ht' : xnt X + 1 ≤ t := ht
        exact a6 t (by omega)
      · have ht' : t < xnt X + 1 := ht
        rw [va_up_ne _ _ (show (3 : Nat) ≠ 6 by decide), va_up_ne _ _ (show (5 : Nat) ≠ 6 by decide), va_up_ne _ _ (show (4 : Nat) ≠ 6 by decide), va_up_ne _ _ (show (7 : Nat) ≠ 6 by decide), va_up_ne _ _ (show (8 : Nat) ≠ 6 by decide), va_up_self, pk_un (show t ≠ xnt X + 1 by omega), b3, b4, b5, b6, stX_add X l fd z t (by omega)]
        show (∀ l', va_up (xlg X) (xnt X) (some l) t = some l' → l' < 3 ∧ upd (N 3) (xnt X) (nI l) t = nI l') ∧ N 5 t = b01 (va_up (xlg X) (xnt X) (some l) t = none) ∧ upd (N 4) (xnt X) (nI fd) t = nI (va_up (xfd X) (xnt X) fd t) ∧ va_up (xfd X) (xnt X) fd t < 4 ∧ va_up (xcn X) (xnt X) z.1 t ≤ 48 ∧ upd (N 6) (xnt X) (nI (stX X (xnt X))) t = nI (stX X t) ∧ ∀ q, q < va_up (xcn X) (xnt X) z.1 t → G1 10 (stX X t + q) = lN (enc (va_up (xwd X) (xnt X) z.2.2.1 t q)) ∧ wok (va_up (xwd X) (xnt X) z.2.2.1 t q) ∧ N1 7 (stX X t + q) = nI (va_up (xfr X) (xnt X) z.2.2.2.1 t q) ∧ N1 8 (stX X t + q) = nI (va_up (xfu X) (xnt X) z.2.2.2.2 t q)
        by_cases e : t = xnt X
        · rw [e]
          simp only [va_up_self, pk_us]
          refine ⟨fun l' q => by cases q; exact ⟨hl, rfl⟩, ?_, trivial, hfd, z48, trivial, fun q hq => ⟨(bnew q hq).1, hwok q hq, (bnew q hq).2.2⟩⟩
          rw [a6 _ (Nat.le_refl _), b01_f (by simp)]
        · obtain ⟨k1, k2, k3, k4, k5, k6, k7⟩ := a7 t (by omega)
          have hst := stX_le X (t := t + 1) (n := xnt X) (by omega)
          rw [stX_s] at hst
          simp only [va_up_ne _ _ e, pk_un e]
          refine ⟨k1, k2, k3, k4, k5, k6, fun q hq => ?_⟩
          obtain ⟨o1, o2, o3, o4⟩ := bold (stX X t + q) (by omega)
          rw [o1, o3, o4]
          exact k7 q hq
      · have ht' : t < xnt X + 1 := ht
        have hl' : va_up (xlg X) (xnt X) (some l) t = some l' := hl'
        have hq : q < va_up (xcn X) (xnt X) z.1 t := hq
        rw [stX_add X l fd z t (by omega)]
        show G1 11 (stX X t + q) = lN (encO (nE Nn l' (va_up (xwd X) (xnt X) z.2.2.1 t q)))
        by_cases e : t = xnt X
        · rw [e] at hl' hq ⊢
          rw [va_up_self] at hl' hq ⊢
          cases hl'
          exact (bnew q hq).2.1
        · rw [va_up_ne _ _ e] at hl' hq ⊢
          have hst := stX_le X (t := t + 1) (n := xnt X) (by omega)
          rw [stX_s] at hst
          rw [(bold (stX X t + q) (by omega)).2.1]
          exact hs t (by omega) l' hl' q hq
    | succ d ih =>
      intro k J1 N1 G1 hk hP
      obtain ⟨b1, b2, b3, bN, bG, bold, bnew⟩ := id hP
      have hz1 : cW z J1 N1 G1 := hz.keep (b2 1 (by decide)) (fun i hi => bN i (Or.inl hi)) (bG 0 (by decide) (by decide))
      have cS : (nI (stX X (xnt X) + k)).toNatClampNeg = stX X (xnt X) + k := nI_clamp (by omega)
      have hwk := hwok k (by omega)
      iterate 2 refine go_s rfl rfl rfl trivial ?_
      refine go_c rfl rfl rfl (c_Ta_wordCount hz1) ?_
      rintro r h1 ⟨rfl, rfl⟩
      iterate 1 refine go_s rfl rfl rfl trivial ?_
      refine go_if (fun hc2 => absurd hc2 (nI_ge (by omega) (by omega))) (fun _ => ?_)
      iterate 2 refine go_s rfl rfl rfl trivial ?_
      rw [b1]
      iterate 2 refine go_s rfl rfl rfl trivial ?_
      refine go_if (fun hc2 => absurd hc2 (nI_ge (a := stX X (xnt X) + k) (b := 400) (by omega) (by omega))) (fun _ => ?_)
      iterate 4 refine go_s rfl rfl rfl trivial ?_
      rw [b1]
      iterate 2 refine go_s rfl rfl rfl trivial ?_
      refine go_c rfl rfl rfl (c_Ta_wordAt hz1 (k := k) (by omega)) ?_
      rintro r h1 ⟨rfl, rfl⟩
      rw [if_pos (by omega)]
      refine go_s rfl rfl rfl ?_ ?_
      · exact vp_in_nI (by omega) (by omega)
      rw [cS]
      change Go m_Sh_put 100 _ _ (hC L xs J1 N1 (va_up G1 10 (vp_updL (G1 10) (stX X (xnt X) + k) (lN (enc (z.2.2.1 k))))) U p M D) _
      have hz2 : cW z J1 N1 (va_up G1 10 (vp_updL (G1 10) (stX X (xnt X) + k) (lN (enc (z.2.2.1 k))))) := hz1.keep rfl (fun _ _ => rfl) rfl
      have hN2 : cN Nn J1 (va_up G1 10 (vp_updL (G1 10) (stX X (xnt X) + k) (lN (enc (z.2.2.1 k))))) p D cp := hN.keep (fun i a b => b2 i (by omega)) (fun i a b => (va_up_ne _ _ (by omega)).trans (bG i (by omega) (by omega))) (fun _ _ => rfl) (fun _ _ q => q)
      have hq2 := hN2.q (L := L) (xs := xs) (N := N1) (U := U) (M := M) hl
      obtain ⟨-, q0⟩ := id hq2
      obtain ⟨eB, iB, sB, capB, feB, fiB, fsB, hoB, hdB⟩ := q0
      iterate 4 refine go_s rfl rfl rfl trivial ?_
      rw [b1]
      iterate 3 refine go_s rfl rfl rfl trivial ?_
      refine go_c rfl rfl rfl (c_Ta_wordAt hz2 (k := k) (by omega)) ?_
      rintro r h1 ⟨rfl, rfl⟩
      rw [if_pos (by omega)]
      refine go_c rfl rfl (call_v rfl hoB.1 (by omega) rfl rfl) (c_stemInTexts hq2 hwk.o) ?_
      rintro r h2 ⟨rfl, rfl⟩
      refine go_s rfl rfl rfl ?_ ?_
      · exact vp_in_nI (by omega) (by omega)
      rw [cS]
      change Go m_Sh_put 119 _ _ (hC L xs J1 N1 (va_up (va_up G1 10 (vp_updL (G1 10) (stX X (xnt X) + k) (lN (enc (z.2.2.1 k))))) 11 (vp_updL (G1 11) (stX X (xnt X) + k) (lN (encO (nE Nn l (z.2.2.1 k)))))) U p M D) _
      have hz3 : cW z J1 N1 (va_up (va_up G1 10 (vp_updL (G1 10) (stX X (xnt X) + k) (lN (enc (z.2.2.1 k))))) 11 (vp_updL (G1 11) (stX X (xnt X) + k) (lN (encO (nE Nn l (z.2.2.1 k)))))) := hz2.keep rfl (fun _ _ => rfl) rfl
      iterate 4 refine go_s rfl rfl rfl trivial ?_
      rw [b1]
      iterate 2 refine go_s rfl rfl rfl trivial ?_
      refine go_c rfl rfl rfl (c_Ta_startAt hz3 (k := k) (by omega)) ?_
      rintro r h1 ⟨rfl, rfl⟩
      refine go_s rfl rfl rfl ?_ ?_
      · exact vp_in_nI (by omega) (by omega)
      rw [cS]
      change Go m_Sh_put 134 _ _ (hC L xs J1 (va_up N1 7 (upd (N1 7) (stX X (xnt X) + k) (nI (z.2.2.2.1 k)))) (va_up (va_up G1 10 (vp_updL (G1 10) (stX X (xnt X) + k) (lN (enc (z.2.2.1 k))))) 11 (vp_updL (G1 11) (stX X (xnt X) + k) (lN (encO (nE Nn l (z.2.2.1 k)))))) U p M D) _
      have hz4 : cW z J1 (va_up N1 7 (upd (N1 7) (stX X (xnt X) + k) (nI (z.2.2.2.1 k)))) (va_up (va_up G1 10 (vp_updL (G1 10) (stX X (xnt X) + k) (lN (enc (z.2.2.1 k))))) 11 (vp_updL (G1 11) (stX X (xnt X) + k) (lN (encO (nE Nn l (z.2.2.1 k)))))) := hz3.keep rfl (fun i hi => va_up_ne _ _ (by omega)) rfl
      iterate 4 refine go_s rfl rfl rfl trivial ?_
      rw [b1]
      iterate 2 refine go_s rfl rfl rfl trivial ?_
      refine go_c rfl rfl rfl (c_Ta_sizeAt hz4 (k := k) (by omega)) ?_
      rintro r h1 ⟨rfl, rfl⟩
      refine go_s rfl rfl rfl ?_ ?_
      · exact vp_in_nI (by omega) (by omega)
      rw [cS]
      iterate 3 refine go_s rfl rfl rfl trivial ?_
      rw [b1]
      iterate 2 refine go_s rfl rfl rfl trivial ?_
      rw [nI_1]
      iterate 3 refine go_s rfl rfl rfl trivial ?_
      rw [nI_1]
      have g10 : (va_up (va_up G1 10 (vp_updL (G1 10) (stX X (xnt X) + k) (lN (enc (z.2.2.1 k))))) 11 (vp_updL (G1 11) (stX X (xnt X) + k) (lN (encO (nE Nn l (z.2.2.1 k)))))) 10 = vp_updL (G1 10) (stX X (xnt X) + k) (lN (enc (z.2.2.1 k))) := (va_up_ne _ _ (by decide)).trans (va_up_self _ _ _)
      have g11 : (va_up (va_up G1 10 (vp_updL (G1 10) (stX X (xnt X) + k) (lN (enc (z.2.2.1 k))))) 11 (vp_updL (G1 11) (stX X (xnt X) + k) (lN (encO (nE Nn l (z.2.2.1 k)))))) 11 = vp_updL (G1 11) (stX X (xnt X) + k) (lN (encO (nE Nn l (z.2.2.1 k)))) := va_up_self _ _ _
      have n7 : (va_up (va_up N1 7 (upd (N1 7) (stX X (xnt X) + k) (nI (z.2.2.2.1 k)))) 8 (upd (N1 8) (stX X (xnt X) + k) (nI (z.2.2.2.2 k)))) 7 = upd (N1 7) (stX X (xnt X) + k) (nI (z.2.2.2.1 k)) := (va_up_ne _ _ (by decide)).trans (va_up_self _ _ _)
      have n8 : (va_up (va_up N1 7 (upd (N1 7) (stX X (xnt X) + k) (nI (z.2.2.2.1 k)))) 8 (upd (N1 8) (stX X (xnt X) + k) (nI (z.2.2.2.2 k)))) 8 = upd (N1 8) (stX X (xnt X) + k) (nI (z.2.2.2.2 k)) := va_up_self _ _ _
      refine ih (k + 1) (va_up J1 9 (nI (stX X (xnt X) + k + 1))) (va_up (va_up N1 7 (upd (N1 7) (stX X (xnt X) + k) (nI (z.2.2.2.1 k)))) 8 (upd (N1 8) (stX X (xnt X) + k) (nI (z.2.2.2.2 k)))) (va_up (va_up G1 10 (vp_updL (G1 10) (stX X (xnt X) + k) (lN (enc (z.2.2.1 k))))) 11 (vp_updL (G1 11) (stX X (xnt X) + k) (lN (encO (nE Nn l (z.2.2.1 k)))))) (by omega) ⟨va_up_self _ _ _, fun i hi => (va_up_ne _ _ hi).trans (b2 i hi), ?_, fun i hi => (va_up_ne _ _ (by omega)).trans ((va_up_ne _ _ (by omega)).trans (bN i hi)), fun i h10 h11 => (va_up_ne _ _ h11).trans ((va_up_ne _ _ h10).trans (bG i h10 h11)), fun a ha => ?_, fun j hj => ?_⟩
      · exact b3
      · rw [g10, g11, n7, n8, pk_uLn (by omega), pk_uLn (by omega), pk_un (by omega), pk_un (by omega)]
        exact bold a ha
      · rw [g10, g11, n7, n8]
        by_cases e : j = k
        · subst e
          rw [pk_uLs, pk_uLs, pk_us, pk_us]
          exact ⟨rfl, rfl, rfl, rfl⟩
        · rw [pk_uLn (by omega), pk_uLn (by omega), pk_un (by omega), pk_un (by omega)]
          exact bnew j (by omega)
  iterate 2 refine go_s rfl rfl rfl trivial ?_
  rw [a1]
  iterate 5 refine go_s rfl rfl rfl trivial ?_
  refine go_c rfl rfl (call_v rfl hoA.1 (by omega) rfl rfl) (c_La_number hoA.1) ?_
  rintro r h1 ⟨rfl, rfl⟩
  refine go_s rfl rfl rfl ?_ ?_
  · exact vp_in_nI (by omega) (by omega)
  simp only [cn]
  iterate 4 refine go_s rfl rfl rfl trivial ?_
  refine go_s rfl rfl rfl ?_ ?_
  · exact vp_in_nI (by omega) (by omega)
  simp only [cn]
  iterate 5 refine go_s rfl rfl rfl trivial ?_
  rw [a2]
  refine go_s rfl rfl rfl ?_ ?_
  · exact vp_in_nI (by omega) (by omega)
  simp only [cn]
  iterate 2 refine go_s rfl rfl rfl trivial ?_
  refine key z.1 0 J (va_up (va_up (va_up N 3 (upd (N 3) (xnt X) (nI l))) 4 (upd (N 4) (xnt X) (nI fd))) 6 (upd (N 6) (xnt X) (nI (stX X (xnt X))))) G (by omega) ⟨a2, fun _ _ => rfl, ⟨rfl, rfl, rfl, rfl⟩, fun i hi => ?_, fun _ _ _ => rfl, fun a ha => ⟨rfl, rfl, rfl, rfl⟩, fun j hj => absurd hj (Nat.not_lt_zero j)⟩
  rw [va_up_ne _ _ (by omega), va_up_ne _ _ (by omega), va_up_ne _ _ (by omega)]
end SHELF3
