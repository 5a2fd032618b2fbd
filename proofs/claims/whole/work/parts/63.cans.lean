/-! ===== the class answers a question ===== -/
theorem kR_in (k : Nat) : 1 ≤ kR k ∧ kR k ≤ 3 := by
  simp only [kR]
  split
  · omega
  · split <;> omega
theorem kR_2 {k : Nat} (h : k < 3) : kR k = 2 ↔ k = 1 := by
  rcases (by omega : k = 0 ∨ k = 1 ∨ k = 2) with rfl | rfl | rfl <;> decide
theorem kR_1 {k : Nat} (h : k < 3) : kR k = 1 ↔ k = 0 := by
  rcases (by omega : k = 0 ∨ k = 1 ∨ k = 2) with rfl | rfl | rfl <;> decide
theorem kR_3 {k : Nat} (h : k < 3) : kR k = 3 ↔ k = 2 := by
  rcases (by omega : k = 0 ∨ k = 1 ∨ k = 2) with rfl | rfl | rfl <;> decide
/-- the row of what is sought, once it is stemmed -/
def cSo (Q : tx_Q) (E : Nat → List Nat → Option (List Nat)) (l : Nat) (n : Nat) (G : Nat → Nat → Int64) : Prop := ∀ i, i < n → ∀ k, k < (Q.2.1 i).2.2.2.2 → G 12 ((Q.2.1 i).2.2.2.1 + k) = if (Q.2.1 i).2.1 = 1 then lN (enc (Q.2.2.2 ((Q.2.1 i).2.2.2.1 + k))) else lN (encO (E l (Q.2.2.2 ((Q.2.1 i).2.2.2.1 + k))))
section QANS
variable {L : Nat} {xs : Nat → Int32} {J : Nat → Int32} {N : Nat → Nat → Int32} {G : Nat → Nat → Int64} {U : Int64} {p : Nat → Nat} {M : Nat → am_C} {D : List am_C} {Q : tx_Q} {rows : Nat} {fo : Nat → Nat} {Nn : tx_N} {cp : Nat → Nat} {X : tx_X} {E : Nat → List Nat → Option (List Nat)}
theorem c_stemSought {l : Nat} (hl : l < 3) (hN : cN Nn J G p D cp) (hL : cLst Q.1 fo p J D) (hQp : cQp Q fo D) (hi : qinv Q rows) (h48 : Q.2.2.1 ≤ 48) (hG : ∀ j, j < Q.2.2.1 → G 12 j = lN (enc (Q.2.2.2 j))) : Do m_Qu_stemSought [.ref 34, .ref (13 + 4 * l)] (hC L xs J N G U p M D) (fun r h' => r = none ∧ ∃ G', h' = hC L xs J N G' U p M D ∧ cSo Q (nE Nn) l Q.1 G' ∧ ∀ i, i ≠ 12 → G' i = G i) := by
  have key : ∀ (d i : Nat) (X3 X4 X5 : Option Value) (G1 : Nat → Nat → Int64), Q.1 = i + d → cSo Q (nE Nn) l i G1 → (∀ i', i ≤ i' → i' < Q.1 → ∀ k, k < (Q.2.1 i').2.2.2.2 → G1 12 ((Q.2.1 i').2.2.2.1 + k) = lN (enc (Q.2.2.2 ((Q.2.1 i').2.2.2.1 + k)))) → (∀ i, i ≠ 12 → G1 i = G i) → Go m_Qu_stemSought 2 [some (.ref 34), some (.ref (13 + 4 * l)), some (.int (nI i)), X3, X4, X5] [] (hC L xs J N G1 U p M D) (fun r h' => r = none ∧ ∃ G', h' = hC L xs J N G' U p M D ∧ cSo Q (nE Nn) l Q.1 G' ∧ ∀ i, i ≠ 12 → G' i = G i) := by
    intro d
    induction d with
    | zero =>
      intro i X3 X4 X5 G1 hk hs ho hG1
      have ei : i = Q.1 := by omega
      subst ei
      iterate 3 refine go_s rfl rfl rfl trivial ?_
      refine go_c rfl rfl rfl (c_AL_size hL) ?_
      rintro r h3 ⟨rfl, rfl⟩
      iterate 1 refine go_s rfl rfl rfl trivial ?_
      refine go_if (fun _ => ?_) (fun hc => absurd (Int32.le_refl _) hc)
      exact go_r rfl rfl rfl trivial ⟨rfl, G1, rfl, hs, hG1⟩
    | succ d ih =>
      intro i X3 X4 X5 G1 hk hs ho hG1
      obtain ⟨q1, q2, q3, q4, q5⟩ := hi.1 i (by omega)
      have hQ48 : Q.1 ≤ 48 := Nat.le_trans hi.2.1 h48
      have hob : am_get (hC L xs J N G1 U p M D) (fo i + 70) = some (.inr (9, qob (Q.2.1 i))) := hQp i (by omega)
      have nx : ∀ (Y3 Y4 Y5 : Option Value) (G2 : Nat → Nat → Int64), (∀ i, i ≠ 12 → G2 i = G i) → (∀ a, (a < (Q.2.1 i).2.2.2.1 ∨ (Q.2.1 i).2.2.2.1 + (Q.2.1 i).2.2.2.2 ≤ a) → G2 12 a = G1 12 a) → (∀ k, k < (Q.2.1 i).2.2.2.2 → G2 12 ((Q.2.1 i).2.2.2.1 + k) = if (Q.2.1 i).2.1 = 1 then lN (enc (Q.2.2.2 ((Q.2.1 i).2.2.2.1 + k))) else lN (encO (nE Nn l (Q.2.2.2 ((Q.2.1 i).2.2.2.1 + k))))) → Go m_Qu_stemSought 91 [some (.ref 34), some (.ref (13 + 4 * l)), some (.int (nI i)), Y3, Y4, Y5] [] (hC L xs J N G2 U p M D) (fun r h' => r = none ∧ ∃ G', h' = hC L xs J N G' U p M D ∧ cSo Q (nE Nn) l Q.1 G' ∧ ∀ i, i ≠ 12 → G' i = G i) := by
        intro Y3 Y4 Y5 G2 hG2 hold hnew
        iterate 2 refine go_s rfl rfl rfl trivial ?_
        rw [nI_1]
        refine ih (i + 1) Y3 Y4 Y5 G2 (by omega) (fun i' hi' k hk' => ?_) (fun i' h1 h2 k hk' => ?_) hG2
        · by_cases e : i' = i
          · subst e; exact hnew k hk'
          · have := (hi.2.2.1 i' i (by omega) (by omega)).1
            rw [hold _ (Or.inl (by omega))]
            exact hs i' (by omega) k hk'
        · have := (hi.2.2.1 i i' (by omega) h2).1
          rw [hold _ (Or.inr (by omega))]
          exact ho i' (by omega) h2 k hk'
      iterate 3 refine go_s rfl rfl rfl trivial ?_
      refine go_c rfl rfl rfl (c_AL_size hL) ?_
      rintro r h3 ⟨rfl, rfl⟩
      iterate 1 refine go_s rfl rfl rfl trivial ?_
      refine go_if (fun hc => absurd hc (nI_ge (by omega) (by omega))) (fun _ => ?_)
      iterate 3 refine go_s rfl rfl rfl trivial ?_
      refine go_c rfl rfl rfl (c_AL_get hL (i := i) (by omega)) ?_
      rintro r h3 ⟨rfl, rfl⟩
      refine go_s rfl rfl (s_chk hob (by omega)) trivial ?_
      iterate 2 refine go_s rfl rfl rfl trivial ?_
      refine go_s rfl rfl (s_gf hob rfl) trivial ?_
      iterate 1 refine go_s rfl rfl rfl trivial ?_
      refine go_s rfl rfl (s_gf hob rfl) trivial ?_
      iterate 1 refine go_s rfl rfl rfl trivial ?_
      rw [nI_add]
      iterate 3 refine go_s rfl rfl rfl trivial ?_
      iterate 1 refine go_s rfl rfl rfl trivial ?_
      rw [show (if (Int32.ofNat 48) < nI ((Q.2.1 i).2.2.2.1 + (Q.2.1 i).2.2.2.2) then (Int32.ofNat 48) else nI ((Q.2.1 i).2.2.2.1 + (Q.2.1 i).2.2.2.2)) = nI ((Q.2.1 i).2.2.2.1 + (Q.2.1 i).2.2.2.2) from minI' (a := 48) (by omega) (by omega) (by omega)]
      iterate 2 refine go_s rfl rfl rfl trivial ?_
      refine go_s rfl rfl (s_gf hob rfl) trivial ?_
      iterate 1 refine go_s rfl rfl rfl trivial ?_
      have inner : ∀ (e k : Nat) (G2 : Nat → Nat → Int64), (Q.2.1 i).2.2.2.2 = k + e → (∀ i, i ≠ 12 → G2 i = G i) → (∀ a, (a < (Q.2.1 i).2.2.2.1 ∨ (Q.2.1 i).2.2.2.1 + k ≤ a) → G2 12 a = G1 12 a) → (∀ k', k' < k → G2 12 ((Q.2.1 i).2.2.2.1 + k') = lN (encO (nE Nn l (Q.2.2.2 ((Q.2.1 i).2.2.2.1 + k'))))) → (k ≠ 0 → (Q.2.1 i).2.1 ≠ 1) → Go m_Qu_stemSought 50 [some (.ref 34), some (.ref (13 + 4 * l)), some (.int (nI i)), some (.ref (fo i + 70)), some (.int (nI ((Q.2.1 i).2.2.2.1 + (Q.2.1 i).2.2.2.2))), some (.int (nI ((Q.2.1 i).2.2.2.1 + k)))] [] (hC L xs J N G2 U p M D) (fun r h' => r = none ∧ ∃ G', h' = hC L xs J N G' U p M D ∧ cSo Q (nE Nn) l Q.1 G' ∧ ∀ i, i ≠ 12 → G' i = G i) := by
        intro e
        induction e with
        | zero =>
          intro k G2 hk2 hG2 hold hnew hkd
          have ek : k = (Q.2.1 i).2.2.2.2 := by omega
          subst ek
          iterate 3 refine go_s rfl rfl rfl trivial ?_
          refine go_if (fun _ => ?_) (fun hc => absurd (Int32.le_refl _) hc)
          refine nx _ _ _ G2 hG2 hold (fun k' hk' => ?_)
          rw [if_neg (hkd (by omega))]
          exact hnew k' hk'
        | succ e ih2 =>
          intro k G2 hk2 hG2 hold hnew hkd
          have ck : (nI ((Q.2.1 i).2.2.2.1 + k)).toNatClampNeg = (Q.2.1 i).2.2.2.1 + k := nI_clamp (by omega)
          have hob2 : am_get (hC L xs J N G2 U p M D) (fo i + 70) = some (.inr (9, qob (Q.2.1 i))) := hQp i (by omega)
          have hin := kR_in (Q.2.1 i).2.1
          iterate 3 refine go_s rfl rfl rfl trivial ?_
          refine go_if (fun hc => absurd hc (nI_ge (by omega) (by omega))) (fun _ => ?_)
          iterate 1 refine go_s rfl rfl rfl trivial ?_
          refine go_s rfl rfl (s_gf hob2 rfl) trivial ?_
          iterate 1 refine go_s rfl rfl rfl trivial ?_
          refine go_s rfl rfl rfl ?_ ?_
          · exact Or.inr ⟨hin.1, hin.2, by decide, by decide⟩
          refine go_if (fun hc => ?_) (fun hc => ?_)
          · have k1 := (kR_2 q2).mp hc
            have hk0 : k = 0 := Classical.not_not.mp fun q => hkd q k1
            subst hk0
            refine nx _ _ _ G2 hG2 (fun a ha => hold a (by omega)) (fun k' hk' => ?_)
            rw [if_pos k1, hold _ (Or.inr (by omega))]
            exact ho i (Nat.le_refl _) (by omega) k' hk'
          · have k1 : (Q.2.1 i).2.1 ≠ 1 := fun q => hc ((kR_2 q2).mpr q)
            have hN2 : cN Nn J G2 p D cp := hN.g (fun j hj => hG2 j (by omega))
            have hq2 := hN2.q (L := L) (xs := xs) (N := N) (U := U) (M := M) hl
            obtain ⟨-, q0⟩ := id hq2
            obtain ⟨eB, iB, sB, capB, feB, fiB, fsB, hoB, hdB⟩ := q0
            have hwk := hi.2.2.2.2 ((Q.2.1 i).2.2.2.1 + k) (by omega)
            have eG : G2 12 ((Q.2.1 i).2.2.2.1 + k) = lN (enc (Q.2.2.2 ((Q.2.1 i).2.2.2.1 + k))) := (hold _ (Or.inr (Nat.le_refl _))).trans (ho i (Nat.le_refl _) (by omega) k (by omega))
            iterate 7 refine go_s rfl rfl rfl trivial ?_
            refine go_s rfl rfl rfl ?_ ?_
            · exact vp_in_nI (by omega) (by omega)
            rw [ck, eG]
            refine go_c rfl rfl (call_v rfl hoB.1 (by omega) rfl rfl) (c_stemInTexts hq2 hwk.o) ?_
            rintro r h3 ⟨rfl, rfl⟩
            refine go_s rfl rfl rfl ?_ ?_
            · exact vp_in_nI (by omega) (by omega)
            rw [ck]
            iterate 2 refine go_s rfl rfl rfl trivial ?_
            rw [nI_1]
            refine ih2 (k + 1) (va_up G2 12 (vp_updL (G2 12) ((Q.2.1 i).2.2.2.1 + k) (lN (encO (nE Nn l (Q.2.2.2 ((Q.2.1 i).2.2.2.1 + k))))))) (by omega) (fun j hj => (va_up_ne _ _ hj).trans (hG2 j hj)) (fun a ha => ?_) (fun k' hk' => ?_) (fun _ => k1)
            · rw [va_up_self, pk_uLn (by omega)]
              exact hold a (by omega)
            · rw [va_up_self]
              by_cases e2 : k' = k
              · subst e2; rw [pk_uLs]
              · rw [pk_uLn (by omega)]; exact hnew k' (by omega)
      exact inner (Q.2.1 i).2.2.2.2 0 G1 (by omega) hG1 (fun a _ => rfl) (fun k' hk' => absurd hk' (Nat.not_lt_zero k')) (fun q => absurd rfl q)
  iterate 2 refine go_s rfl rfl rfl trivial ?_
  exact key Q.1 0 _ _ _ G (by omega) (fun i' hi' => absurd hi' (Nat.not_lt_zero i')) (fun i' _ h2 k hk => hG _ (by have := (hi.1 i' h2).1; omega)) (fun _ _ => rfl)
theorem c_soughtBy {i : Nat} (hQp : cQp Q fo D) (hi : i < Q.1) (h48 : (Q.2.1 i).2.2.2.1 < 48) : Do m_Qu_soughtBy [.ref 34, .ref (fo i + 70)] (hC L xs J N G U p M D) (fun r h' => r = some (.long (G 12 (Q.2.1 i).2.2.2.1)) ∧ h' = hC L xs J N G U p M D) := by
  have hob : am_get (hC L xs J N G U p M D) (fo i + 70) = some (.inr (9, qob (Q.2.1 i))) := hQp i hi
  have ck : (nI (Q.2.1 i).2.2.2.1).toNatClampNeg = (Q.2.1 i).2.2.2.1 := nI_clamp (by omega)
  iterate 1 refine go_s rfl rfl rfl trivial ?_
  refine go_s rfl rfl (s_gf hob rfl) trivial ?_
  iterate 1 refine go_s rfl rfl rfl trivial ?_
  refine go_if (fun hc => absurd hc (nI_pos (by omega))) (fun _ => ?_)
  iterate 1 refine go_s rfl rfl rfl trivial ?_
  refine go_s rfl rfl (s_gf hob rfl) trivial ?_
  iterate 4 refine go_s rfl rfl rfl trivial ?_
  refine go_if (fun hc => absurd hc (nI_ge (a := (Q.2.1 i).2.2.2.1) (b := 48) (by omega) (by omega))) (fun _ => ?_)
  iterate 3 refine go_s rfl rfl rfl trivial ?_
  refine go_s rfl rfl (s_gf hob rfl) trivial ?_
  refine go_s rfl rfl rfl ?_ ?_
  · exact vp_in_nI (by omega) (by omega)
  rw [ck]
  iterate 1 refine go_s rfl rfl rfl trivial ?_
  exact go_r rfl rfl rfl trivial ⟨rfl, rfl⟩
/-- the stems that count, and what they weigh -/
def cTm (T : List (List Nat)) (E : Nat → List Nat → Option (List Nat)) (X : tx_X) (l : Nat) (f : Int32) (J : Nat → Int32) (G : Nat → Nat → Int64) : Prop := J 11 = nI T.length ∧ ∀ k, k < T.length → G 13 k = lN (enc (T.getD k [])) ∧ wok (T.getD k []) ∧ G 14 k = shQ E X l f (T.getD k [])
theorem c_hasTerm {T : List (List Nat)} {l : Nat} {f : Int32} (h : cTm T E X l f J G) (h48 : T.length ≤ 48) {u : List Nat} (hu : wok u) : Do m_Qu_hasTerm [.ref 34, .long (lN (enc u))] (hC L xs J N G U p M D) (fun r h' => r = some (.int (b01 (u ∈ T))) ∧ h' = hC L xs J N G U p M D) := by
  obtain ⟨h1, h2⟩ := h
  have key : ∀ (d k : Nat), T.length = k + d → (∀ j, j < k → T.getD j [] ≠ u) → Go m_Qu_hasTerm 2 [some (.ref 34), some (.long (lN (enc u))), none, some (.int (nI k))] [] (hC L xs J N G U p M D) (fun r h' => r = some (.int (b01 (u ∈ T))) ∧ h' = hC L xs J N G U p M D) := by
    intro d
    induction d with
    | zero =>
      intro k hk hno
      have ek : k = T.length := by omega
      subst ek
      iterate 3 refine go_s rfl rfl rfl trivial ?_
      rw [h1]
      iterate 1 refine go_s rfl rfl rfl trivial ?_
      refine go_if (fun _ => ?_) (fun hc => absurd (Int32.le_refl _) hc)
      iterate 1 refine go_s rfl rfl rfl trivial ?_
      refine go_r rfl rfl rfl (Or.inl rfl) ⟨?_, rfl⟩
      rw [b01_f]
      intro q
      obtain ⟨j, j1, j2⟩ := mem_getD.mp q
      exact hno j j1 j2
    | succ d ih =>
      intro k hk hno
      have ck : (nI k).toNatClampNeg = k := nI_clamp (by omega)
      obtain ⟨y1, y2, y3⟩ := h2 k (by omega)
      iterate 3 refine go_s rfl rfl rfl trivial ?_
      rw [h1]
      iterate 1 refine go_s rfl rfl rfl trivial ?_
      refine go_if (fun hc => absurd hc (nI_ge (by omega) (by omega))) (fun _ => ?_)
      iterate 5 refine go_s rfl rfl rfl trivial ?_
      refine go_if (fun hc => absurd hc (nI_ge (a := k) (b := 48) (by omega) (by omega))) (fun _ => ?_)
      iterate 3 refine go_s rfl rfl rfl trivial ?_
      refine go_s rfl rfl rfl ?_ ?_
      · exact vp_in_nI (by omega) (by omega)
      rw [ck, y1]
      iterate 3 refine go_s rfl rfl rfl trivial ?_
      refine go_if (fun hc => ?_) (fun hc => ?_)
      · iterate 2 refine go_s rfl rfl rfl trivial ?_
        rw [nI_1]
        refine ih (k + 1) (by omega) (fun j hj => ?_)
        rcases Nat.lt_or_ge j k with g | g
        · exact hno j g
        · rw [show j = k by omega]
          exact fun g => hc ((lg_cmp_eq _ _).mpr (by rw [g]))
      · have he := (encI y2.o hu.o).mp ((lg_cmp_eq _ _).mp (Classical.not_not.mp hc))
        iterate 1 refine go_s rfl rfl rfl trivial ?_
        exact go_r rfl rfl rfl (Or.inr rfl) ⟨by rw [b01_t (mem_getD.mpr ⟨k, by omega, he⟩)], rfl⟩
  iterate 2 refine go_s rfl rfl rfl trivial ?_
  exact key T.length 0 (by omega) (fun j hj => absurd hj (Nat.not_lt_zero j))
theorem c_weigh {l : Nat} {f : Int32} (hX : cXs X J N G) (hT : cXt X G E) (he : eok E) (hl : l < 3) (hf : f < 0 ↔ f = -1) (hL : cLst Q.1 fo p J D) (hQp : cQp Q fo D) (hi : qinv Q rows) (h48 : Q.2.2.1 ≤ 48) (hs : cSo Q E l Q.1 G) : Do m_Qu_weigh [.ref 34, .ref 25, .int (nI l), .int f] (hC L xs J N G U p M D) (fun r h' => r = none ∧ ∃ J' G', h' = hC L xs J' N G' U p M D ∧ cTm (trF E l Q Q.1) E X l f J' G' ∧ (∀ i, i ≠ 11 → J' i = J i) ∧ ∀ i, i ≠ 13 → i ≠ 14 → G' i = G i) := by
  have hQ48 : Q.1 ≤ 48 := Nat.le_trans hi.2.1 h48
  have a3 := hX.2.2.1
  have key : ∀ (d i : Nat) (X5 X6 X7 X8 X9 : Option Value) (J1 : Nat → Int32) (G1 : Nat → Nat → Int64), Q.1 = i + d → cTm (trF E l Q i) E X l f J1 G1 → (∀ i, i ≠ 11 → J1 i = J i) → (∀ i, i ≠ 13 → i ≠ 14 → G1 i = G i) → Go m_Qu_weigh 8 [some (.ref 34), some (.ref 25), some (.int (nI l)), some (.int f), some (.int (nI i)), X5, X6, X7, X8, X9] [] (hC L xs J1 N G1 U p M D) (fun r h' => r = none ∧ ∃ J' G', h' = hC L xs J' N G' U p M D ∧ cTm (trF E l Q Q.1) E X l f J' G' ∧ (∀ i, i ≠ 11 → J' i = J i) ∧ ∀ i, i ≠ 13 → i ≠ 14 → G' i = G i) := by
    intro d
    induction d with
    | zero =>
      intro i X5 X6 X7 X8 X9 J1 G1 hk ht hJ hG
      have ei : i = Q.1 := by omega
      subst ei
      iterate 3 refine go_s rfl rfl rfl trivial ?_
      refine go_c rfl rfl rfl (c_AL_size (hL.kj (J' := J1) (hJ 15 (by decide)))) ?_
      rintro r h3 ⟨rfl, rfl⟩
      iterate 1 refine go_s rfl rfl rfl trivial ?_
      refine go_if (fun _ => ?_) (fun hc => absurd (Int32.le_refl _) hc)
      exact go_r rfl rfl rfl trivial ⟨rfl, J1, G1, rfl, ht, hJ, hG⟩
    | succ d ih =>
      intro i X5 X6 X7 X8 X9 J1 G1 hk ht hJ hG
      obtain ⟨q1, q2, q3, q4, q5⟩ := hi.1 i (by omega)
      have hL1 : cLst Q.1 fo p J1 D := hL.kj (hJ 15 (by decide))
      have hX1 : cXs X J1 N G1 := hX.keep (hJ 8 (by decide)) (hJ 9 (by decide)) (fun _ _ _ => rfl) (hG 10 (by decide) (by decide))
      have hT1 : cXt X G1 E := hT.keep (hG 11 (by decide) (by decide))
      have hob : am_get (hC L xs J1 N G1 U p M D) (fo i + 70) = some (.inr (9, qob (Q.2.1 i))) := hQp i (by omega)
      have hin := kR_in (Q.2.1 i).2.1
      have htl := trF_le E l Q i
      have hwk := hi.2.2.2.2 (Q.2.1 i).2.2.2.1 (by omega)
      have es : G1 12 (Q.2.1 i).2.2.2.1 = if (Q.2.1 i).2.1 = 1 then lN (enc (Q.2.2.2 (Q.2.1 i).2.2.2.1)) else lN (encO (E l (Q.2.2.2 (Q.2.1 i).2.2.2.1))) := by
        rw [hG 12 (by decide) (by decide)]
        exact hs i (by omega) 0 (by omega)
      have nx : ∀ (Y5 Y6 Y7 Y8 Y9 : Option Value) (J2 : Nat → Int32) (G2 : Nat → Nat → Int64), cTm (trF E l Q (i + 1)) E X l f J2 G2 → (∀ i, i ≠ 11 → J2 i = J i) → (∀ i, i ≠ 13 → i ≠ 14 → G2 i = G i) → Go m_Qu_weigh 157 [some (.ref 34), some (.ref 25), some (.int (nI l)), some (.int f), some (.int (nI i)), Y5, Y6, Y7, Y8, Y9] [] (hC L xs J2 N G2 U p M D) (fun r h' => r = none ∧ ∃ J' G', h' = hC L xs J' N G' U p M D ∧ cTm (trF E l Q Q.1) E X l f J' G' ∧ (∀ i, i ≠ 11 → J' i = J i) ∧ ∀ i, i ≠ 13 → i ≠ 14 → G' i = G i) := by
        intro Y5 Y6 Y7 Y8 Y9 J2 G2 ht2 hJ2 hG2
        iterate 2 refine go_s rfl rfl rfl trivial ?_
        rw [nI_1]
        exact ih (i + 1) Y5 Y6 Y7 Y8 Y9 J2 G2 (by omega) ht2 hJ2 hG2
      have skip : trW E l Q i = none → ∀ Y6 Y9, Go m_Qu_weigh 72 [some (.ref 34), some (.ref 25), some (.int (nI l)), some (.int f), some (.int (nI i)), some (.ref (fo i + 70)), some (.long Y6), none, X8, Y9] [] (hC L xs J1 N G1 U p M D) (fun r h' => r = none ∧ ∃ J' G', h' = hC L xs J' N G' U p M D ∧ cTm (trF E l Q Q.1) E X l f J' G' ∧ (∀ i, i ≠ 11 → J' i = J i) ∧ ∀ i, i ≠ 13 → i ≠ 14 → G' i = G i) := by
        intro hn Y6 Y9
        have e : trF E l Q (i + 1) = trF E l Q i := by rw [trF, hn, trA]
        iterate 4 refine go_s rfl rfl rfl trivial ?_
        refine go_if (fun _ => ?_) (fun hc => absurd rfl hc)
        exact nx _ _ _ _ _ J1 G1 (by rw [e]; exact ht) hJ hG
      iterate 3 refine go_s rfl rfl rfl trivial ?_
      refine go_c rfl rfl rfl (c_AL_size hL1) ?_
      rintro r h3 ⟨rfl, rfl⟩
      iterate 1 refine go_s rfl rfl rfl trivial ?_
      refine go_if (fun hc => absurd hc (nI_ge (by omega) (by omega))) (fun _ => ?_)
      iterate 3 refine go_s rfl rfl rfl trivial ?_
      refine go_c rfl rfl rfl (c_AL_get hL1 (i := i) (by omega)) ?_
      rintro r h3 ⟨rfl, rfl⟩
      refine go_s rfl rfl (s_chk hob (by omega)) trivial ?_
      iterate 3 refine go_s rfl rfl rfl trivial ?_
      refine go_c rfl rfl rfl (c_soughtBy hQp (i := i) (by omega) (by omega)) ?_
      rintro r h3 ⟨rfl, rfl⟩
      rw [es]
      iterate 2 refine go_s rfl rfl rfl trivial ?_
      refine go_s rfl rfl (s_gf hob rfl) trivial ?_
      iterate 1 refine go_s rfl rfl rfl trivial ?_
      refine go_s rfl rfl rfl ?_ ?_
      · exact Or.inr ⟨hin.1, hin.2, by decide, by decide⟩
      refine go_if (fun hc => ?_) (fun hc => ?_)
      · refine skip ?_ _ _
        rw [trW, if_neg (fun q => hc ((kR_1 q2).mpr q.1))]
      · have k0 := (kR_1 q2).mp (Classical.not_not.mp hc)
        rw [if_neg (show ¬ (Q.2.1 i).2.1 = 1 by omega)]
        iterate 1 refine go_s rfl rfl rfl trivial ?_
        refine go_s rfl rfl (s_gf hob rfl) trivial ?_
        iterate 1 refine go_s rfl rfl rfl trivial ?_
        refine go_if (fun hc1 => ?_) (fun hc1 => ?_)
        · refine skip ?_ _ _
          rw [trW, if_neg]
          intro q
          refine hc1 (b01_f ?_)
          rw [q.2]
          decide
        · have hneg : (Q.2.1 i).2.2.1 = false := by
            have := b01_eq0.mp (Classical.not_not.mp hc1)
            cases e : (Q.2.1 i).2.2.1 with
            | true => exact absurd e this
            | false => rfl
          have eW : trW E l Q i = E l (Q.2.2.2 (Q.2.1 i).2.2.2.1) := if_pos ⟨k0, hneg⟩
          have ho : ∀ u, E l (Q.2.2.2 (Q.2.1 i).2.2.2.1) = some u → wok u := fun u hu => he l hl _ u hwk hu
          iterate 4 refine go_s rfl rfl rfl trivial ?_
          refine go_if (fun hc2 => ?_) (fun hc2 => ?_)
          · exact skip (eW.trans ((encO_z ho).mp ((lg_cmp_eq _ _).mp hc2))) _ _
          · obtain ⟨u, hu⟩ : ∃ u, E l (Q.2.2.2 (Q.2.1 i).2.2.2.1) = some u := by
              cases q : E l (Q.2.2.2 (Q.2.1 i).2.2.2.1) with
              | none => exact absurd ((lg_cmp_eq _ _).mpr ((encO_z ho).mpr q)) hc2
              | some u => exact ⟨u, rfl⟩
            have huk := ho u hu
            rw [hu]
            change Go m_Qu_weigh 68 [some (.ref 34), some (.ref 25), some (.int (nI l)), some (.int f), some (.int (nI i)), some (.ref (fo i + 70)), some (.long (lN (enc u))), none, X8, X9] [] (hC L xs J1 N G1 U p M D) _
            have e1 : trF E l Q (i + 1) = ifp (u ∈ trF E l Q i) (trF E l Q i) (trF E l Q i ++ [u]) := by rw [trF, eW, hu, trA]
            iterate 5 refine go_s rfl rfl rfl trivial ?_
            refine go_if (fun hc3 => absurd hc3 (by decide)) (fun _ => ?_)
            iterate 2 refine go_s rfl rfl rfl trivial ?_
            refine go_c rfl rfl rfl (c_hasTerm ht (by omega) huk) ?_
            rintro r h3 ⟨rfl, rfl⟩
            iterate 1 refine go_s rfl rfl rfl trivial ?_
            refine go_if (fun hc3 => ?_) (fun hc3 => ?_)
            · have hm : u ∈ trF E l Q i := Classical.not_not.mp fun q => hc3 (b01_f q)
              rw [ifp_t hm] at e1
              exact nx _ _ _ _ _ J1 G1 (by rw [e1]; exact ht) hJ hG
            · have hm := b01_eq0.mp (Classical.not_not.mp hc3)
              rw [ifp_f hm] at e1
              have ct : (nI (trF E l Q i).length).toNatClampNeg = (trF E l Q i).length := nI_clamp (by omega)
              iterate 2 refine go_s rfl rfl rfl trivial ?_
              rw [ht.1]
              iterate 4 refine go_s rfl rfl rfl trivial ?_
              refine go_if (fun hc4 => absurd hc4 (nI_ge (a := (trF E l Q i).length) (b := 48) (by omega) (by omega))) (fun _ => ?_)
              iterate 4 refine go_s rfl rfl rfl trivial ?_
              refine go_c rfl rfl rfl (c_countTextsWith hX1 hT1 he hl hf huk) ?_
              rintro r h3 ⟨rfl, rfl⟩
              have hmn : mnQ E X l f u ≤ 40 := Nat.le_trans (cnt_le _ _) a3
              iterate 5 refine go_s rfl rfl rfl trivial ?_
              rw [ht.1]
              iterate 1 refine go_s rfl rfl rfl trivial ?_
              refine go_s rfl rfl rfl ?_ ?_
              · exact vp_in_nI (by omega) (by omega)
              rw [ct]
              change Go m_Qu_weigh 122 _ _ (hC L xs J1 N (va_up G1 13 (vp_updL (G1 13) (trF E l Q i).length (lN (enc u)))) U p M D) _
              iterate 4 refine go_s rfl rfl rfl trivial ?_
              rw [ht.1]
              have last : ∀ z, z = shQ E X l f u → Go m_Qu_weigh 146 [some (.ref 34), some (.ref 25), some (.int (nI l)), some (.int f), some (.int (nI i)), some (.ref (fo i + 70)), some (.long (lN (enc u))), none, some (.int 1), some (.int (nI (mnQ E X l f u)))] [.long z, .int (nI (trF E l Q i).length), .ref 38] (hC L xs J1 N (va_up G1 13 (vp_updL (G1 13) (trF E l Q i).length (lN (enc u)))) U p M D) (fun r h' => r = none ∧ ∃ J' G', h' = hC L xs J' N G' U p M D ∧ cTm (trF E l Q Q.1) E X l f J' G' ∧ (∀ i, i ≠ 11 → J' i = J i) ∧ ∀ i, i ≠ 13 → i ≠ 14 → G' i = G i) := by
                rintro z rfl
                refine go_s rfl rfl rfl ?_ ?_
                · exact vp_in_nI (by omega) (by omega)
                rw [ct]
                iterate 3 refine go_s rfl rfl rfl trivial ?_
                rw [ht.1]
                iterate 2 refine go_s rfl rfl rfl trivial ?_
                rw [nI_1]
                iterate 1 refine go_s rfl rfl rfl trivial ?_
                have g13 : va_up (va_up G1 13 (vp_updL (G1 13) (trF E l Q i).length (lN (enc u)))) 14 (vp_updL (G1 14) (trF E l Q i).length (shQ E X l f u)) 13 = vp_updL (G1 13) (trF E l Q i).length (lN (enc u)) := (va_up_ne _ _ (by decide)).trans (va_up_self _ _ _)
                have g14 : va_up (va_up G1 13 (vp_updL (G1 13) (trF E l Q i).length (lN (enc u)))) 14 (vp_updL (G1 14) (trF E l Q i).length (shQ E X l f u)) 14 = vp_updL (G1 14) (trF E l Q i).length (shQ E X l f u) := va_up_self _ _ _
                refine nx _ _ _ _ _ (va_up J1 11 (nI ((trF E l Q i).length + 1))) (va_up (va_up G1 13 (vp_updL (G1 13) (trF E l Q i).length (lN (enc u)))) 14 (vp_updL (G1 14) (trF E l Q i).length (shQ E X l f u))) ⟨?_, fun k hk => ?_⟩ (fun j hj => (va_up_ne _ _ hj).trans (hJ j hj)) (fun j h13 h14 => (va_up_ne _ _ h14).trans ((va_up_ne _ _ h13).trans (hG j h13 h14)))
                · rw [e1, List.length_append]
                  exact va_up_self _ _ _
                · rw [e1] at hk ⊢
                  rw [List.length_append, List.length_singleton] at hk
                  rw [g13, g14]
                  by_cases e2 : k = (trF E l Q i).length
                  · subst e2
                    have e3 : (trF E l Q i ++ [u]).getD (trF E l Q i).length [] = u := by
                      rw [List.getD_eq_getElem?_getD, List.getElem?_append_right (Nat.le_refl _)]
                      simp
                    rw [e3, pk_uLs, pk_uLs]
                    exact ⟨rfl, huk, rfl⟩
                  · have e3 : (trF E l Q i ++ [u]).getD k [] = (trF E l Q i).getD k [] := by
                      rw [List.getD_eq_getElem?_getD, List.getElem?_append_left (by omega), ← List.getD_eq_getElem?_getD]
                    rw [e3, pk_uLn e2, pk_uLn e2]
                    exact ht.2 k (by omega)
              iterate 2 refine go_s rfl rfl rfl trivial ?_
              refine go_if (fun hc5 => ?_) (fun hc5 => ?_)
              · have hz : ¬ 0 < mnQ E X l f u := fun q => nI_nle q (by omega) hc5
                iterate 1 refine go_s rfl rfl rfl trivial ?_
                exact last _ (by rw [shQ, if_neg hz])
              · have hz : 0 < mnQ E X l f u := Nat.pos_of_ne_zero fun q => hc5 (by rw [q]; decide)
                iterate 3 refine go_s rfl rfl rfl trivial ?_
                refine go_s rfl rfl rfl ?_ ?_
                · exact nI_l0 hz (by omega)
                iterate 1 refine go_s rfl rfl rfl trivial ?_
                exact last _ (by rw [shQ, if_pos hz])
  iterate 5 refine go_s rfl rfl rfl trivial ?_
  exact key Q.1 0 _ _ _ _ _ (va_up J 11 0) G (by omega) ⟨va_up_self _ _ _, fun k hk => absurd hk (Nat.not_lt_zero k)⟩ (fun i hi => va_up_ne _ _ hi) (fun _ _ _ => rfl)
end QANS
