/-! ===== which texts answer: the class ===== -/
section QANS2
variable {L : Nat} {xs : Nat → Int32} {J : Nat → Int32} {N : Nat → Nat → Int32} {G : Nat → Nat → Int64} {U : Int64} {p : Nat → Nat} {M : Nat → am_C} {D : List am_C} {Q : tx_Q} {rows : Nat} {fo : Nat → Nat} {X : tx_X} {E : Nat → List Nat → Option (List Nat)}
theorem c_weightOf {l t : Nat} {f : Int32} {T : List (List Nat)} (hX : cXs X J N G) (hT : cXt X G E) (he : eok E) (ht : t < xnt X) (htl : xlg X t = some l) (hm : cTm T E X l f J G) (h48 : T.length ≤ 48) : Do m_Qu_weightOf [.ref 34, .ref 25, .int (nI t)] (hC L xs J N G U p M D) (fun r h' => r = some (.long (scF E X l f t T T.length)) ∧ h' = hC L xs J N G U p M D) := by
  have key : ∀ (d k : Nat), T.length = k + d → Go m_Qu_weightOf 5 [some (.ref 34), some (.ref 25), some (.int (nI t)), some (.long (scF E X l f t T k)), none, some (.int (nI k))] [] (hC L xs J N G U p M D) (fun r h' => r = some (.long (scF E X l f t T T.length)) ∧ h' = hC L xs J N G U p M D) := by
    intro d
    induction d with
    | zero =>
      intro k hk
      have ek : k = T.length := by omega
      subst ek
      iterate 3 refine go_s rfl rfl rfl trivial ?_
      rw [hm.1]
      iterate 1 refine go_s rfl rfl rfl trivial ?_
      refine go_if (fun _ => ?_) (fun hc => absurd (Int32.le_refl _) hc)
      iterate 1 refine go_s rfl rfl rfl trivial ?_
      exact go_r rfl rfl rfl trivial ⟨rfl, rfl⟩
    | succ d ih =>
      intro k hk
      have ck : (nI k).toNatClampNeg = k := nI_clamp (by omega)
      obtain ⟨y1, y2, y3⟩ := hm.2 k (by omega)
      iterate 3 refine go_s rfl rfl rfl trivial ?_
      rw [hm.1]
      iterate 1 refine go_s rfl rfl rfl trivial ?_
      refine go_if (fun hc => absurd hc (nI_ge (by omega) (by omega))) (fun _ => ?_)
      iterate 5 refine go_s rfl rfl rfl trivial ?_
      refine go_if (fun hc => absurd hc (nI_ge (a := k) (b := 48) (by omega) (by omega))) (fun _ => ?_)
      iterate 5 refine go_s rfl rfl rfl trivial ?_
      refine go_s rfl rfl rfl ?_ ?_
      · exact vp_in_nI (by omega) (by omega)
      rw [ck, y1]
      iterate 1 refine go_s rfl rfl rfl trivial ?_
      refine go_c rfl rfl rfl (c_timesOf hX hT he ht htl (o := some (T.getD k [])) (fun u hu => by cases hu; exact y2)) ?_
      rintro r h3 ⟨rfl, rfl⟩
      rw [tmO_some]
      iterate 4 refine go_s rfl rfl rfl trivial ?_
      refine go_s rfl rfl rfl ?_ ?_
      · exact vp_in_nI (by omega) (by omega)
      rw [ck, y3]
      iterate 5 refine go_s rfl rfl rfl trivial ?_
      rw [nI_1]
      exact ih (k + 1) (by omega)
  iterate 4 refine go_s rfl rfl rfl trivial ?_
  exact key T.length 0 (by omega)
theorem c_isPA (hX : cXs X J N G) (hT : cXt X G E) (he : eok E) {l t i : Nat} (hl : l < 3) (ht : t < xnt X) (htl : xlg X t = some l) (hQp : cQp Q fo D) (hi : qinv Q rows) (h48 : Q.2.2.1 ≤ 48) (hs : cSo Q E l Q.1 G) (hiq : i < Q.1) : Do m_Qu_isPartAnsweredBy [.ref 34, .ref (fo i + 70), .ref 25, .int (nI t)] (hC L xs J N G U p M D) (fun r h' => r = some (.int (b01 (paQ E X l t Q.2.2.2 (Q.2.1 i)))) ∧ h' = hC L xs J N G U p M D) := by
  obtain ⟨q1, q2, q3, q4, q5⟩ := hi.1 i hiq
  have hob : am_get (hC L xs J N G U p M D) (fo i + 70) = some (.inr (9, qob (Q.2.1 i))) := hQp i hiq
  have hin := kR_in (Q.2.1 i).2.1
  have hsi := hs i hiq
  have hwk : ∀ k, k < (Q.2.1 i).2.2.2.2 → wok (Q.2.2.2 ((Q.2.1 i).2.2.2.1 + k)) := fun k hk => hi.2.2.2.2 _ (by omega)
  have c48 := (hX.of ht htl).2.2.1
  iterate 1 refine go_s rfl rfl rfl trivial ?_
  refine go_s rfl rfl (s_gf hob rfl) trivial ?_
  iterate 1 refine go_s rfl rfl rfl trivial ?_
  refine go_s rfl rfl rfl ?_ ?_
  · exact Or.inr ⟨hin.1, hin.2, by decide, by decide⟩
  refine go_if (fun hc => ?_) (fun hc => ?_)
  · have k2 : ¬ (Q.2.1 i).2.1 = 2 := fun q => hc ((kR_3 q2).mpr q)
    iterate 1 refine go_s rfl rfl rfl trivial ?_
    refine go_s rfl rfl (s_gf hob rfl) trivial ?_
    iterate 1 refine go_s rfl rfl rfl trivial ?_
    refine go_s rfl rfl rfl ?_ ?_
    · exact Or.inr ⟨hin.1, hin.2, by decide, by decide⟩
    rw [paQ, if_neg k2]
    have eG := hsi 0 (by omega)
    rw [Nat.add_zero] at eG
    have hw0 := hwk 0 (by omega)
    rw [Nat.add_zero] at hw0
    refine go_if (fun hc1 => ?_) (fun hc1 => ?_)
    · have k1 : ¬ (Q.2.1 i).2.1 = 1 := fun q => hc1 ((kR_2 q2).mpr q)
      rw [if_neg k1] at eG ⊢
      have ho : ∀ u, E l (Q.2.2.2 (Q.2.1 i).2.2.2.1) = some u → wok u := fun u hu => he l hl _ u hw0 hu
      iterate 3 refine go_s rfl rfl rfl trivial ?_
      refine go_c rfl rfl rfl (c_soughtBy hQp hiq (by omega)) ?_
      rintro r h3 ⟨rfl, rfl⟩
      rw [eG]
      iterate 1 refine go_s rfl rfl rfl trivial ?_
      refine go_c rfl rfl rfl (c_timesOf hX hT he ht htl ho) ?_
      rintro r h3 ⟨rfl, rfl⟩
      have hle : tmO E X l t (E l (Q.2.2.2 (Q.2.1 i).2.2.2.1)) ≤ 48 := Nat.le_trans (cnt_le _ _) c48
      have hiff : (∃ u, E l (Q.2.2.2 (Q.2.1 i).2.2.2.1) = some u ∧ 0 < tmQ E X l t 0 u) ↔ 0 < tmO E X l t (E l (Q.2.2.2 (Q.2.1 i).2.2.2.1)) := by
        cases e : E l (Q.2.2.2 (Q.2.1 i).2.2.2.1) with
        | none =>
          rw [tmO_none]
          exact ⟨fun ⟨u, a, _⟩ => (by cases a), fun q => absurd q (Nat.lt_irrefl 0)⟩
        | some v =>
          rw [tmO_some]
          exact ⟨fun ⟨u, a, b⟩ => (by cases a; exact b), fun q => ⟨v, rfl, q⟩⟩
      rw [b01_iff hiff]
      iterate 1 refine go_s rfl rfl rfl trivial ?_
      refine go_if (fun hc2 => ?_) (fun hc2 => ?_)
      · have : ¬ 0 < tmO E X l t (E l (Q.2.2.2 (Q.2.1 i).2.2.2.1)) := fun q => nI_nle q (by omega) hc2
        iterate 1 refine go_s rfl rfl rfl trivial ?_
        exact go_r rfl rfl rfl (Or.inl rfl) ⟨by rw [b01_f this], rfl⟩
      · have : 0 < tmO E X l t (E l (Q.2.2.2 (Q.2.1 i).2.2.2.1)) := Nat.pos_of_ne_zero fun q => hc2 (by rw [q]; decide)
        iterate 2 refine go_s rfl rfl rfl trivial ?_
        exact go_r rfl rfl rfl (Or.inr rfl) ⟨by rw [b01_t this], rfl⟩
    · have k1 : (Q.2.1 i).2.1 = 1 := (kR_2 q2).mp (Classical.not_not.mp hc1)
      rw [if_pos k1] at eG ⊢
      iterate 3 refine go_s rfl rfl rfl trivial ?_
      refine go_c rfl rfl rfl (c_soughtBy hQp hiq (by omega)) ?_
      rintro r h3 ⟨rfl, rfl⟩
      rw [eG]
      iterate 1 refine go_s rfl rfl rfl trivial ?_
      refine go_c rfl rfl rfl (c_hasBeginning hX hT he ht htl hw0.o) ?_
      rintro r h3 ⟨rfl, rfl⟩
      exact go_r rfl rfl rfl (b01_g _) ⟨rfl, rfl⟩
  · have k2 : (Q.2.1 i).2.1 = 2 := (kR_3 q2).mp (Classical.not_not.mp hc)
    rw [paQ, if_pos k2]
    iterate 4 refine go_s rfl rfl rfl trivial ?_
    refine go_s rfl rfl (s_gf hob rfl) trivial ?_
    iterate 1 refine go_s rfl rfl rfl trivial ?_
    refine go_s rfl rfl (s_gf hob rfl) trivial ?_
    iterate 1 refine go_s rfl rfl rfl trivial ?_
    refine go_c rfl rfl rfl (c_Sh_hasPhrase hX hT he ht htl (wq := Q.2.2.2) (first := (Q.2.1 i).2.2.2.1) (n := (Q.2.1 i).2.2.2.2) (fun k hk => ⟨(hsi k hk).trans (if_neg (by omega)), hwk k hk⟩) (by omega)) ?_
    rintro r h3 ⟨rfl, rfl⟩
    exact go_r rfl rfl rfl (b01_g _) ⟨rfl, rfl⟩
/-- how far the parts have been gone through -/
def iaS (Q : tx_Q) (E : Nat → List Nat → Option (List Nat)) (X : tx_X) (l t i : Nat) (g c : Int32) : Prop := (i = 0 ∧ g = 0 ∧ c = -1) ∨ ∃ j, i = j + 1 ∧ c = nI (Q.2.1 j).1 ∧ (∀ r, r < (Q.2.1 j).1 → ¬ rwQ E X l t Q r) ∧ ((g = 1 ∧ ∀ i', i' < i → (Q.2.1 i').1 = (Q.2.1 j).1 → (paQ E X l t Q.2.2.2 (Q.2.1 i') ↔ (Q.2.1 i').2.2.1 = false)) ∨ (g = 0 ∧ ∃ i', i' < i ∧ (Q.2.1 i').1 = (Q.2.1 j).1 ∧ ¬ (paQ E X l t Q.2.2.2 (Q.2.1 i') ↔ (Q.2.1 i').2.2.1 = false)))
theorem qinv.row {Q : tx_Q} {rows i j : Nat} (h : qinv Q rows) (hij : i ≤ j) (hj : j < Q.1) : (Q.2.1 i).1 ≤ (Q.2.1 j).1 := by
  by_cases e : i = j
  · rw [e]; exact Nat.le_refl _
  · exact (h.2.2.1 i j (by omega) hj).2
theorem c_isAnsweredBy (hX : cXs X J N G) (hT : cXt X G E) (he : eok E) {l t : Nat} (hl : l < 3) (ht : t < xnt X) (htl : xlg X t = some l) (hL : cLst Q.1 fo p J D) (hQp : cQp Q fo D) (hi : qinv Q rows) (hr97 : rows ≤ 1000) (h48 : Q.2.2.1 ≤ 48) (hs : cSo Q E l Q.1 G) : Do m_Qu_isAnsweredBy [.ref 34, .ref 25, .int (nI t)] (hC L xs J N G U p M D) (fun r h' => r = some (.int (b01 (∃ r, r < rows ∧ rwQ E X l t Q r))) ∧ h' = hC L xs J N G U p M D) := by
  have hQ48 : Q.1 ≤ 48 := Nat.le_trans hi.2.1 h48
  have key : ∀ (d i : Nat) (g c : Int32) (X6 : Option Value), Q.1 = i + d → iaS Q E X l t i g c → Go m_Qu_isAnsweredBy 8 [some (.ref 34), some (.ref 25), some (.int (nI t)), some (.int g), some (.int c), some (.int (nI i)), X6] [] (hC L xs J N G U p M D) (fun r h' => r = some (.int (b01 (∃ r, r < rows ∧ rwQ E X l t Q r))) ∧ h' = hC L xs J N G U p M D) := by
    intro d
    induction d with
    | zero =>
      intro i g c X6 hk hst
      have ei : i = Q.1 := by omega
      subst ei
      iterate 3 refine go_s rfl rfl rfl trivial ?_
      refine go_c rfl rfl rfl (c_AL_size hL) ?_
      rintro r h3 ⟨rfl, rfl⟩
      iterate 1 refine go_s rfl rfl rfl trivial ?_
      refine go_if (fun _ => ?_) (fun hc => absurd (Int32.le_refl _) hc)
      iterate 1 refine go_s rfl rfl rfl trivial ?_
      rcases hst with ⟨e0, rfl, -⟩ | ⟨j, e0, -, hlow, ⟨rfl, hg⟩ | ⟨rfl, hg⟩⟩
      · refine go_r rfl rfl rfl (Or.inl rfl) ⟨?_, rfl⟩
        rw [b01_f]
        rintro ⟨r, r1, -⟩
        obtain ⟨i', i1, -⟩ := hi.2.2.2.1 r r1
        omega
      · refine go_r rfl rfl rfl (Or.inr rfl) ⟨?_, rfl⟩
        rw [b01_t]
        exact ⟨(Q.2.1 j).1, (hi.1 j (by omega)).2.2.2.1, fun i' h1 h2 => hg i' h1 h2⟩
      · refine go_r rfl rfl rfl (Or.inl rfl) ⟨?_, rfl⟩
        rw [b01_f]
        rintro ⟨r, r1, r2⟩
        rcases Nat.lt_trichotomy r (Q.2.1 j).1 with q | q | q
        · exact hlow r q r2
        · obtain ⟨i', i1, i2, i3⟩ := hg
          exact i3 (r2 i' i1 (by rw [i2, q]))
        · obtain ⟨i', i1, i2⟩ := hi.2.2.2.1 r r1
          have := hi.row (i := i') (j := j) (by omega) (by omega)
          omega
    | succ d ih =>
      intro i g c X6 hk hst
      obtain ⟨q1, q2, q3, q4, q5⟩ := hi.1 i (by omega)
      have hob : am_get (hC L xs J N G U p M D) (fo i + 70) = some (.inr (9, qob (Q.2.1 i))) := hQp i (by omega)
      have nx : ∀ (g' : Int32), iaS Q E X l t (i + 1) g' (nI (Q.2.1 i).1) → Go m_Qu_isAnsweredBy 81 [some (.ref 34), some (.ref 25), some (.int (nI t)), some (.int g'), some (.int (nI (Q.2.1 i).1)), some (.int (nI i)), some (.ref (fo i + 70))] [] (hC L xs J N G U p M D) (fun r h' => r = some (.int (b01 (∃ r, r < rows ∧ rwQ E X l t Q r))) ∧ h' = hC L xs J N G U p M D) := by
        intro g' hst'
        iterate 2 refine go_s rfl rfl rfl trivial ?_
        rw [nI_1]
        exact ih (i + 1) g' _ _ (by omega) hst'
      -- the part itself, its row begun
      have part : (∀ r, r < (Q.2.1 i).1 → ¬ rwQ E X l t Q r) → ∀ g' : Int32, ((g' = 1 ∧ ∀ i', i' < i → (Q.2.1 i').1 = (Q.2.1 i).1 → (paQ E X l t Q.2.2.2 (Q.2.1 i') ↔ (Q.2.1 i').2.2.1 = false)) ∨ (g' = 0 ∧ ∃ i', i' < i ∧ (Q.2.1 i').1 = (Q.2.1 i).1 ∧ ¬ (paQ E X l t Q.2.2.2 (Q.2.1 i') ↔ (Q.2.1 i').2.2.1 = false))) → Go m_Qu_isAnsweredBy 59 [some (.ref 34), some (.ref 25), some (.int (nI t)), some (.int g'), some (.int (nI (Q.2.1 i).1)), some (.int (nI i)), some (.ref (fo i + 70))] [] (hC L xs J N G U p M D) (fun r h' => r = some (.int (b01 (∃ r, r < rows ∧ rwQ E X l t Q r))) ∧ h' = hC L xs J N G U p M D) := by
        intro hlow g' hg
        iterate 2 refine go_s rfl rfl rfl trivial ?_
        rcases hg with ⟨rfl, hg⟩ | ⟨rfl, hg⟩
        · refine go_if (fun hc => absurd hc (by decide)) (fun _ => ?_)
          iterate 4 refine go_s rfl rfl rfl trivial ?_
          refine go_c rfl rfl rfl (c_isPA hX hT he hl ht htl hQp hi h48 hs (i := i) (by omega)) ?_
          rintro r h3 ⟨rfl, rfl⟩
          iterate 1 refine go_s rfl rfl rfl trivial ?_
          refine go_s rfl rfl (s_gf hob rfl) trivial ?_
          iterate 1 refine go_s rfl rfl rfl trivial ?_
          refine go_if (fun hc => ?_) (fun hc => ?_)
          · refine nx 1 (Or.inr ⟨i, rfl, rfl, hlow, Or.inl ⟨rfl, fun i' h1 h2 => ?_⟩⟩)
            by_cases e : i' = i
            · subst e
              have hne : ¬ (paQ E X l t Q.2.2.2 (Q.2.1 i') ↔ (Q.2.1 i').2.2.1 = true) := fun q => hc (b01_iff q)
              cases e2 : (Q.2.1 i').2.2.1 with
              | true =>
                rw [e2] at hne
                exact ⟨fun q => absurd ⟨fun _ => rfl, fun _ => q⟩ hne, fun q => by cases q⟩
              | false =>
                rw [e2] at hne
                refine ⟨fun _ => rfl, fun _ => Classical.not_not.mp fun q => hne ⟨fun q2 => absurd q2 q, fun q2 => by cases q2⟩⟩
            · exact hg i' (by omega) h2
          · have heq := Classical.not_not.mp hc
            iterate 2 refine go_s rfl rfl rfl trivial ?_
            refine nx 0 (Or.inr ⟨i, rfl, rfl, hlow, Or.inr ⟨rfl, i, Nat.lt_succ_self i, rfl, fun q => ?_⟩⟩)
            by_cases e : paQ E X l t Q.2.2.2 (Q.2.1 i)
            · have e2 := q.mp e
              have heq : b01 (paQ E X l t Q.2.2.2 (Q.2.1 i)) = b01 ((Q.2.1 i).2.2.1 = true) := heq
              rw [b01_t e, b01_f (by rw [e2]; decide)] at heq
              exact absurd heq (by decide)
            · have e2 : (Q.2.1 i).2.2.1 = true := by
                cases e3 : (Q.2.1 i).2.2.1 with
                | true => rfl
                | false => exact absurd (q.mpr e3) e
              have heq : b01 (paQ E X l t Q.2.2.2 (Q.2.1 i)) = b01 ((Q.2.1 i).2.2.1 = true) := heq
              rw [b01_f e, b01_t e2] at heq
              exact absurd heq (by decide)
        · refine go_if (fun _ => ?_) (fun hc => absurd rfl hc)
          obtain ⟨i', i1, i2, i3⟩ := hg
          exact nx 0 (Or.inr ⟨i, rfl, rfl, hlow, Or.inr ⟨rfl, i', by omega, i2, i3⟩⟩)
      iterate 3 refine go_s rfl rfl rfl trivial ?_
      refine go_c rfl rfl rfl (c_AL_size hL) ?_
      rintro r h3 ⟨rfl, rfl⟩
      iterate 1 refine go_s rfl rfl rfl trivial ?_
      refine go_if (fun hc => absurd hc (nI_ge (by omega) (by omega))) (fun _ => ?_)
      iterate 3 refine go_s rfl rfl rfl trivial ?_
      refine go_c rfl rfl rfl (c_AL_get hL (i := i) (by omega)) ?_
      rintro r h3 ⟨rfl, rfl⟩
      refine go_s rfl rfl (s_chk hob (by omega)) trivial ?_
      iterate 2 refine go_s rfl rfl rfl trivial ?_
      refine go_s rfl rfl (s_gf hob rfl) trivial ?_
      iterate 2 refine go_s rfl rfl rfl trivial ?_
      refine go_if (fun hc => ?_) (fun hc => ?_)
      · -- the same row
        rcases hst with ⟨e0, -, rfl⟩ | ⟨j, e0, rfl, hlow, hg⟩
        · have hc : nI (Q.2.1 i).1 = -1 := hc
          have h0 : (-1 : Int32) < 0 := by decide
          rw [← hc] at h0
          exact absurd h0 (nI_pos (by omega))
        · have hjr := (hi.1 j (by omega)).2.2.2.1
          have er : (Q.2.1 i).1 = (Q.2.1 j).1 := nI_inj (by omega) (by omega) hc
          rw [← er]
          refine part (fun r hr => hlow r (by omega)) g ?_
          rw [← er] at hg
          exact hg
      · -- another row
        have fresh : (∀ r, r < (Q.2.1 i).1 → ¬ rwQ E X l t Q r) → (∀ i', i' < i → (Q.2.1 i').1 ≠ (Q.2.1 i).1) → Go m_Qu_isAnsweredBy 50 [some (.ref 34), some (.ref 25), some (.int (nI t)), some (.int 0), some (.int c), some (.int (nI i)), some (.ref (fo i + 70))] [] (hC L xs J N G U p M D) (fun r h' => r = some (.int (b01 (∃ r, r < rows ∧ rwQ E X l t Q r))) ∧ h' = hC L xs J N G U p M D) := by
          intro hlow hne
          iterate 3 refine go_s rfl rfl rfl trivial ?_
          refine go_s rfl rfl (s_gf hob rfl) trivial ?_
          iterate 1 refine go_s rfl rfl rfl trivial ?_
          exact part hlow 1 (Or.inl ⟨rfl, fun i' h1 h2 => absurd h2 (hne i' h1)⟩)
        iterate 2 refine go_s rfl rfl rfl trivial ?_
        rcases hst with ⟨e0, rfl, rfl⟩ | ⟨j, e0, rfl, hlow, hg⟩
        · refine go_if (fun _ => ?_) (fun hc1 => absurd rfl hc1)
          subst e0
          refine fresh (fun r hr hq => ?_) (fun i' hi' => absurd hi' (Nat.not_lt_zero i'))
          obtain ⟨i', i1, i2⟩ := hi.2.2.2.1 r (by omega)
          have := hi.row (i := 0) (j := i') (Nat.zero_le _) i1
          omega
        · have hlt : (Q.2.1 j).1 < (Q.2.1 i).1 := by
            have h1 := hi.row (i := j) (j := i) (by omega) (by omega)
            have h2 : (Q.2.1 j).1 ≠ (Q.2.1 i).1 := fun q => hc (by
              show nI (Q.2.1 i).1 = nI (Q.2.1 j).1
              rw [q])
            omega
          have hle : ∀ i', i' < i → (Q.2.1 i').1 ≤ (Q.2.1 j).1 := fun i' hi' => hi.row (by omega) (by omega)
          rcases hg with ⟨rfl, hg⟩ | ⟨rfl, hg⟩
          · refine go_if (fun hc1 => absurd hc1 (by decide)) (fun _ => ?_)
            iterate 1 refine go_s rfl rfl rfl trivial ?_
            refine go_r rfl rfl rfl (Or.inr rfl) ⟨?_, rfl⟩
            rw [b01_t]
            refine ⟨(Q.2.1 j).1, by omega, fun i' h1 h2 => hg i' ?_ h2⟩
            refine Nat.lt_of_not_le fun q => ?_
            have := hi.row (i := i) (j := i') q h1
            omega
          · refine go_if (fun _ => ?_) (fun hc1 => absurd rfl hc1)
            refine fresh (fun r hr hq => ?_) (fun i' hi' q => by have := hle i' hi'; omega)
            rcases Nat.lt_trichotomy r (Q.2.1 j).1 with q | q | q
            · exact hlow r q hq
            · obtain ⟨i', i1, i2, i3⟩ := hg
              exact i3 (hq i' (by omega) (by rw [i2, q]))
            · obtain ⟨i', i1, i2⟩ := hi.2.2.2.1 r (by omega)
              rcases Nat.lt_or_ge i' i with g2 | g2
              · have := hle i' g2
                omega
              · have := hi.row (i := i) (j := i') g2 i1
                omega
  iterate 6 refine go_s rfl rfl rfl trivial ?_
  exact key Q.1 0 0 (-1) _ (by omega) (Or.inl ⟨rfl, rfl, rfl⟩)
end QANS2
