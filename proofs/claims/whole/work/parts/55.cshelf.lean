/-! ===== the class's shelf: stems ===== -/
noncomputable def tmO (E : Nat → List Nat → Option (List Nat)) (X : tx_X) (l t : Nat) (o : Option (List Nat)) : Nat := cnt (fun j => o ≠ none ∧ E l (xwd X t j) = o) (xcn X t)
theorem tmO_some (E : Nat → List Nat → Option (List Nat)) (X : tx_X) (l t : Nat) (v : List Nat) : tmO E X l t (some v) = tmQ E X l t 0 v := by
  rw [tmO, tmQ]
  refine cnt_congr _ fun j hj => ?_
  rw [hasQ0]
  exact ⟨fun q => q.2, fun q => ⟨(fun g => by cases g), q⟩⟩
theorem tmO_none (E : Nat → List Nat → Option (List Nat)) (X : tx_X) (l t : Nat) : tmO E X l t none = 0 := by
  refine Nat.eq_zero_of_not_pos fun q => ?_
  obtain ⟨j, -, h, -⟩ := (cnt_posI _).mp q
  exact h rfl
theorem minI {a b : Nat} (ha : a < 2 ^ 31) (hb : b < 2 ^ 31) : (if nI a < nI b then nI a else nI b) = nI (min b a) := by
  by_cases q : a < b
  · rw [if_pos ((nI_ltI ha hb).mpr q), Nat.min_eq_right (by omega)]
  · rw [if_neg (fun g => q ((nI_ltI ha hb).mp g)), Nat.min_eq_left (by omega)]
section SHELF2
variable {L : Nat} {xs : Nat → Int32} {J : Nat → Int32} {N : Nat → Nat → Int32} {G : Nat → Nat → Int64} {U : Int64} {p : Nat → Nat} {M : Nat → am_C} {D : List am_C} {X : tx_X} {E : Nat → List Nat → Option (List Nat)}
/-- what is known of a text that is there -/
theorem cXs.of (h : cXs X J N G) {t l : Nat} (ht : t < xnt X) (hl : xlg X t = some l) : t < 40 ∧ l < 3 ∧ xcn X t ≤ 48 ∧ stX X t + xcn X t ≤ 400 ∧ fsT X t = stX X t ∧ enT X t = stX X t + xcn X t ∧ ∀ q, q < xcn X t → G 10 (stX X t + q) = lN (enc (xwd X t q)) ∧ wok (xwd X t q) := by
  obtain ⟨a1, a2, a3, a4, a5, a6, a7⟩ := h
  obtain ⟨k1, k2, k3, k4, k5, k6, k7⟩ := a7 t ht
  have hle := stX_le X (t := t + 1) (n := xnt X) ht
  have hs := stX_s X t
  have hT := hereT_of ht hl
  exact ⟨by omega, (k1 l hl).1, k5, by omega, by rw [fsT, ifp_t hT], by rw [enT, ifp_t hT, hs], fun q hq => ⟨(k7 q hq).1, (k7 q hq).2.1⟩⟩
theorem c_timesOf (h : cXs X J N G) (hs : cXt X G E) (he : eok E) {t l : Nat} (ht : t < xnt X) (hl : xlg X t = some l) {o : Option (List Nat)} (ho : ∀ u, o = some u → wok u) : Do m_Sh_timesOf [.ref 25, .long (lN (encO o)), .int (nI t)] (hC L xs J N G U p M D) (fun r h' => r = some (.int (nI (tmO E X l t o))) ∧ h' = hC L xs J N G U p M D) := by
  obtain ⟨t40, l3, c48, b400, e1, e2, hw⟩ := h.of ht hl
  have key : ∀ (d k : Nat), xcn X t = k + d → Go m_Sh_timesOf 17 [some (.ref 25), some (.long (lN (encO o))), none, some (.int (nI t)), some (.int (nI (cnt (fun j => o ≠ none ∧ E l (xwd X t j) = o) k))), some (.int (nI (stX X t + xcn X t))), some (.int (nI (stX X t + k)))] [] (hC L xs J N G U p M D) (fun r h' => r = some (.int (nI (tmO E X l t o))) ∧ h' = hC L xs J N G U p M D) := by
    intro d
    induction d with
    | zero =>
      intro k hk
      have ek : k = xcn X t := by omega
      subst ek
      iterate 3 refine go_s rfl rfl rfl trivial ?_
      refine go_if (fun _ => ?_) (fun hc => absurd (Int32.le_refl _) hc)
      iterate 1 refine go_s rfl rfl rfl trivial ?_
      exact go_r rfl rfl rfl trivial ⟨rfl, rfl⟩
    | succ d ih =>
      intro k hk
      have ck : (nI (stX X t + k)).toNatClampNeg = stX X t + k := nI_clamp (by omega)
      have eg := hs t ht l hl k (by omega)
      have hwk := (hw k (by omega)).2
      have nx : Go m_Sh_timesOf 45 [some (.ref 25), some (.long (lN (encO o))), none, some (.int (nI t)), some (.int (nI (cnt (fun j => o ≠ none ∧ E l (xwd X t j) = o) (k + 1)))), some (.int (nI (stX X t + xcn X t))), some (.int (nI (stX X t + k)))] [] (hC L xs J N G U p M D) (fun r h' => r = some (.int (nI (tmO E X l t o))) ∧ h' = hC L xs J N G U p M D) := by
        iterate 2 refine go_s rfl rfl rfl trivial ?_
        rw [nI_1]
        exact ih (k + 1) (by omega)
      iterate 3 refine go_s rfl rfl rfl trivial ?_
      refine go_if (fun hc => absurd hc (nI_ge (by omega) (by omega))) (fun _ => ?_)
      iterate 4 refine go_s rfl rfl rfl trivial ?_
      refine go_if (fun hc => ?_) (fun hc => ?_)
      · have hz : o = none := (encO_z ho).mp ((lg_cmp_eq _ _).mp hc)
        rw [cnt_f (fun q => q.1 hz)] at nx
        exact nx
      · have hz : o ≠ none := fun q => hc ((lg_cmp_eq _ _).mpr ((encO_z ho).mpr q))
        obtain ⟨v, rfl⟩ : ∃ v, o = some v := by
          cases o with
          | none => exact absurd rfl hz
          | some v => exact ⟨v, rfl⟩
        have hiff := encO_inj (o := E l (xwd X t k)) (fun u hu => he l l3 _ u hwk hu) (ho v rfl)
        iterate 3 refine go_s rfl rfl rfl trivial ?_
        refine go_s rfl rfl rfl ?_ ?_
        · exact vp_in_nI (by omega) (by omega)
        rw [ck, eg]
        iterate 3 refine go_s rfl rfl rfl trivial ?_
        refine go_if (fun hc1 => ?_) (fun hc1 => ?_)
        · rw [cnt_f (fun q => hc1 ((lg_cmp_eq _ _).mpr (hiff.mpr q.2)))] at nx
          exact nx
        · have g := hiff.mp ((lg_cmp_eq _ _).mp (Classical.not_not.mp hc1))
          rw [cnt_t ⟨hz, g⟩] at nx
          iterate 1 refine go_s rfl rfl rfl trivial ?_
          rw [nI_1]
          exact nx
  iterate 4 refine go_s rfl rfl rfl trivial ?_
  refine go_c rfl rfl rfl (c_endOf h (t := t) (by omega)) ?_
  rintro r h1 ⟨rfl, rfl⟩
  iterate 3 refine go_s rfl rfl rfl trivial ?_
  refine go_c rfl rfl rfl (c_firstOf h (t := t) (by omega)) ?_
  rintro r h1 ⟨rfl, rfl⟩
  rw [e1, e2]
  iterate 1 refine go_s rfl rfl rfl trivial ?_
  exact key (xcn X t) 0 (by omega)
theorem c_countTextsWith (h : cXs X J N G) (hs : cXt X G E) (he : eok E) {l : Nat} {f : Int32} (hl : l < 3) (hf : f < 0 ↔ f = -1) {v : List Nat} (hv : wok v) : Do m_Sh_countTextsWith [.ref 25, .long (lN (enc v)), .int (nI l), .int f] (hC L xs J N G U p M D) (fun r h' => r = some (.int (nI (mnQ E X l f v))) ∧ h' = hC L xs J N G U p M D) := by
  have a3 := h.2.2.1
  have key : ∀ (d t : Nat), xnt X = t + d → Go m_Sh_countTextsWith 6 [some (.ref 25), some (.long (lN (enc v))), none, some (.int (nI l)), some (.int f), some (.int (nI (cnt (fun t => askedP X l t f ∧ 0 < tmQ E X l t 0 v) t))), some (.int (nI t))] [] (hC L xs J N G U p M D) (fun r h' => r = some (.int (nI (mnQ E X l f v))) ∧ h' = hC L xs J N G U p M D) := by
    intro d
    induction d with
    | zero =>
      intro t ht
      have et : t = xnt X := by omega
      subst et
      iterate 3 refine go_s rfl rfl rfl trivial ?_
      rw [h.1]
      iterate 1 refine go_s rfl rfl rfl trivial ?_
      refine go_if (fun _ => ?_) (fun hc => absurd (Int32.le_refl _) hc)
      iterate 1 refine go_s rfl rfl rfl trivial ?_
      exact go_r rfl rfl rfl trivial ⟨rfl, rfl⟩
    | succ d ih =>
      intro t ht
      have nx : Go m_Sh_countTextsWith 40 [some (.ref 25), some (.long (lN (enc v))), none, some (.int (nI l)), some (.int f), some (.int (nI (cnt (fun t => askedP X l t f ∧ 0 < tmQ E X l t 0 v) (t + 1)))), some (.int (nI t))] [] (hC L xs J N G U p M D) (fun r h' => r = some (.int (nI (mnQ E X l f v))) ∧ h' = hC L xs J N G U p M D) := by
        iterate 2 refine go_s rfl rfl rfl trivial ?_
        rw [nI_1]
        exact ih (t + 1) (by omega)
      iterate 3 refine go_s rfl rfl rfl trivial ?_
      rw [h.1]
      iterate 1 refine go_s rfl rfl rfl trivial ?_
      refine go_if (fun hc => absurd hc (nI_ge (by omega) (by omega))) (fun _ => ?_)
      iterate 4 refine go_s rfl rfl rfl trivial ?_
      refine go_c rfl rfl rfl (c_isIn h (t := t) (by omega) hl hf) ?_
      rintro r h1 ⟨rfl, rfl⟩
      iterate 1 refine go_s rfl rfl rfl trivial ?_
      refine go_if (fun hc => ?_) (fun hc => ?_)
      · rw [cnt_f (fun q => b01_eq0.mp hc ⟨by omega, q.1⟩)] at nx
        exact nx
      · obtain ⟨-, ha⟩ : t < xnt X ∧ askedP X l t f := Classical.not_not.mp fun q => hc (b01_f q)
        have c48 := (h.of (t := t) (by omega) ha.1).2.2.1
        have tl : tmQ E X l t 0 v ≤ 48 := Nat.le_trans (cnt_le _ _) c48
        iterate 3 refine go_s rfl rfl rfl trivial ?_
        refine go_c rfl rfl rfl (c_timesOf h hs he (t := t) (by omega) ha.1 (o := some v) (fun u hu => by cases hu; exact hv)) ?_
        rintro r h1 ⟨rfl, rfl⟩
        rw [tmO_some]
        iterate 1 refine go_s rfl rfl rfl trivial ?_
        refine go_if (fun hc1 => ?_) (fun hc1 => ?_)
        · rw [cnt_f (fun q => nI_nle q.2 (by omega) hc1)] at nx
          exact nx
        · have : 0 < tmQ E X l t 0 v := Nat.pos_of_ne_zero fun q => hc1 (by rw [q]; decide)
          rw [cnt_t ⟨ha, this⟩] at nx
          iterate 1 refine go_s rfl rfl rfl trivial ?_
          rw [nI_1]
          exact nx
  iterate 4 refine go_s rfl rfl rfl trivial ?_
  exact key (xnt X) 0 (by omega)
theorem c_hasBeginning (h : cXs X J N G) (hs : cXt X G E) (he : eok E) {t l : Nat} (ht : t < xnt X) (hl : xlg X t = some l) {b : List Nat} (hb : wok0 b) : Do m_Sh_hasBeginning [.ref 25, .long (lN (enc b)), .int (nI t)] (hC L xs J N G U p M D) (fun r h' => r = some (.int (b01 (0 < tmQ E X l t 1 b))) ∧ h' = hC L xs J N G U p M D) := by
  obtain ⟨t40, l3, c48, b400, e1, e2, hw⟩ := h.of ht hl
  have key : ∀ (d k : Nat), xcn X t = k + d → (∀ j, j < k → ¬ hasQ 1 (E l (xwd X t j)) b) → Go m_Sh_hasBeginning 14 [some (.ref 25), some (.long (lN (enc b))), none, some (.int (nI t)), some (.int (nI (stX X t + xcn X t))), some (.int (nI (stX X t + k)))] [] (hC L xs J N G U p M D) (fun r h' => r = some (.int (b01 (0 < tmQ E X l t 1 b))) ∧ h' = hC L xs J N G U p M D) := by
    intro d
    induction d with
    | zero =>
      intro k hk hno
      have ek : k = xcn X t := by omega
      subst ek
      iterate 3 refine go_s rfl rfl rfl trivial ?_
      refine go_if (fun _ => ?_) (fun hc => absurd (Int32.le_refl _) hc)
      iterate 1 refine go_s rfl rfl rfl trivial ?_
      refine go_r rfl rfl rfl (Or.inl rfl) ⟨?_, rfl⟩
      rw [b01_f]
      intro q
      obtain ⟨j, j1, j2⟩ := (cnt_posI _).mp q
      exact hno j j1 j2
    | succ d ih =>
      intro k hk hno
      have ck : (nI (stX X t + k)).toNatClampNeg = stX X t + k := nI_clamp (by omega)
      have eg := hs t ht l hl k (by omega)
      have hwk := (hw k (by omega)).2
      have ho : ∀ u, E l (xwd X t k) = some u → wok u := fun u hu => he l l3 _ u hwk hu
      have nx : ¬ hasQ 1 (E l (xwd X t k)) b → Go m_Sh_hasBeginning 49 [some (.ref 25), some (.long (lN (enc b))), none, some (.int (nI t)), some (.int (nI (stX X t + xcn X t))), some (.int (nI (stX X t + k)))] [] (hC L xs J N G U p M D) (fun r h' => r = some (.int (b01 (0 < tmQ E X l t 1 b))) ∧ h' = hC L xs J N G U p M D) := by
        intro hn
        iterate 2 refine go_s rfl rfl rfl trivial ?_
        rw [nI_1]
        refine ih (k + 1) (by omega) (fun j hj => ?_)
        rcases Nat.lt_or_ge j k with g | g
        · exact hno j g
        · rw [show j = k by omega]; exact hn
      iterate 3 refine go_s rfl rfl rfl trivial ?_
      refine go_if (fun hc => absurd hc (nI_ge (by omega) (by omega))) (fun _ => ?_)
      iterate 3 refine go_s rfl rfl rfl trivial ?_
      refine go_s rfl rfl rfl ?_ ?_
      · exact vp_in_nI (by omega) (by omega)
      rw [ck, eg]
      iterate 3 refine go_s rfl rfl rfl trivial ?_
      refine go_if (fun hc => ?_) (fun hc => ?_)
      · have hz := (encO_z ho).mp ((lg_cmp_eq _ _).mp hc)
        refine nx ?_
        rintro ⟨u, q1, -⟩
        rw [hz] at q1
        cases q1
      · cases hE : E l (xwd X t k) with
        | none => exact absurd ((lg_cmp_eq _ _).mpr ((encO_z ho).mpr hE)) hc
        | some u =>
          iterate 4 refine go_s rfl rfl rfl trivial ?_
          refine go_s rfl rfl rfl ?_ ?_
          · exact vp_in_nI (by omega) (by omega)
          rw [ck, eg, hE]
          refine go_c rfl rfl rfl (c_isBeginning _ hb (ho u hE).o) ?_
          rintro r h1 ⟨rfl, rfl⟩
          iterate 1 refine go_s rfl rfl rfl trivial ?_
          refine go_if (fun hc1 => ?_) (fun hc1 => ?_)
          · refine nx ?_
            rintro ⟨u', q1, q2⟩
            rw [hE] at q1
            cases q1
            rcases q2 with ⟨q3, -⟩ | ⟨-, q3⟩
            · exact absurd q3 (by decide)
            · exact b01_eq0.mp hc1 q3
          · have hq : begP u b := Classical.not_not.mp fun q => hc1 (b01_f q)
            iterate 1 refine go_s rfl rfl rfl trivial ?_
            refine go_r rfl rfl rfl (Or.inr rfl) ⟨?_, rfl⟩
            rw [b01_t (P := 0 < tmQ E X l t 1 b) ((cnt_posI _).mpr ⟨k, by omega, u, hE, Or.inr ⟨rfl, hq⟩⟩)]
  iterate 2 refine go_s rfl rfl rfl trivial ?_
  refine go_c rfl rfl rfl (c_endOf h (t := t) (by omega)) ?_
  rintro r h1 ⟨rfl, rfl⟩
  iterate 3 refine go_s rfl rfl rfl trivial ?_
  refine go_c rfl rfl rfl (c_firstOf h (t := t) (by omega)) ?_
  rintro r h1 ⟨rfl, rfl⟩
  rw [e1, e2]
  iterate 1 refine go_s rfl rfl rfl trivial ?_
  exact key (xcn X t) 0 (by omega) (fun j hj => absurd hj (Nat.not_lt_zero j))
/-- the row of what is sought, as a phrase has it -/
def cSq (G : Nat → Nat → Int64) (E : Nat → List Nat → Option (List Nat)) (l : Nat) (wq : Nat → List Nat) (first n : Nat) : Prop := ∀ k, k < n → G 12 (first + k) = lN (encO (E l (wq (first + k)))) ∧ wok (wq (first + k))
theorem c_standsAt (h : cXs X J N G) (hs : cXt X G E) (he : eok E) {t l first n f : Nat} {wq : Nat → List Nat} (ht : t < xnt X) (hl : xlg X t = some l) (hq : cSq G E l wq first n) (h48 : first + n ≤ 48) (hf : f + n ≤ xcn X t) : Do m_Sh_standsAt [.ref 25, .int (nI (stX X t + f)), .ref 36, .int (nI first), .int (nI n)] (hC L xs J N G U p M D) (fun r h' => r = some (.int (b01 (∀ k, k < n → okW E X l t wq first f k))) ∧ h' = hC L xs J N G U p M D) := by
  obtain ⟨t40, l3, c48, b400, e1, e2, hw⟩ := h.of ht hl
  have key : ∀ (d k : Nat) (X6 X7 : Option Value), n = k + d → (∀ j, j < k → okW E X l t wq first f j) → Go m_Sh_standsAt 3 [some (.ref 25), some (.int (nI (stX X t + f))), some (.ref 36), some (.int (nI first)), some (.int (nI n)), some (.int (nI k)), X6, X7] [] (hC L xs J N G U p M D) (fun r h' => r = some (.int (b01 (∀ k, k < n → okW E X l t wq first f k))) ∧ h' = hC L xs J N G U p M D) := by
    intro d
    induction d with
    | zero =>
      intro k X6 X7 hk hok
      have ek : k = n := by omega
      subst ek
      iterate 3 refine go_s rfl rfl rfl trivial ?_
      refine go_if (fun _ => ?_) (fun hc => absurd (Int32.le_refl _) hc)
      iterate 1 refine go_s rfl rfl rfl trivial ?_
      exact go_r rfl rfl rfl (Or.inr rfl) ⟨by rw [b01_t hok], rfl⟩
    | succ d ih =>
      intro k X6 X7 hk hok
      obtain ⟨g1, g2⟩ := hq k (by omega)
      have ck : (nI (first + k)).toNatClampNeg = first + k := nI_clamp (by omega)
      have cf : (nI (stX X t + (f + k))).toNatClampNeg = stX X t + (f + k) := nI_clamp (by omega)
      have ef : stX X t + f + k = stX X t + (f + k) := Nat.add_assoc _ _ _
      have eg := hs t ht l hl (f + k) (by omega)
      have hwk := (hw (f + k) (by omega)).2
      have ho : ∀ u, E l (wq (first + k)) = some u → wok u := fun u hu => he l l3 _ u g2 hu
      have nx : okW E X l t wq first f k → ∀ Y6 Y7, Go m_Sh_standsAt 65 [some (.ref 25), some (.int (nI (stX X t + f))), some (.ref 36), some (.int (nI first)), some (.int (nI n)), some (.int (nI k)), Y6, Y7] [] (hC L xs J N G U p M D) (fun r h' => r = some (.int (b01 (∀ k, k < n → okW E X l t wq first f k))) ∧ h' = hC L xs J N G U p M D) := by
        intro hn Y6 Y7
        iterate 2 refine go_s rfl rfl rfl trivial ?_
        rw [nI_1]
        refine ih (k + 1) Y6 Y7 (by omega) (fun j hj => ?_)
        rcases Nat.lt_or_ge j k with g | g
        · exact hok j g
        · rw [show j = k by omega]; exact hn
      iterate 3 refine go_s rfl rfl rfl trivial ?_
      refine go_if (fun hc => absurd hc (nI_ge (by omega) (by omega))) (fun _ => ?_)
      iterate 3 refine go_s rfl rfl rfl trivial ?_
      rw [nI_add]
      iterate 3 refine go_s rfl rfl rfl trivial ?_
      refine go_if (fun hc => absurd hc (nI_ge (a := first + k) (b := 48) (by omega) (by omega))) (fun _ => ?_)
      iterate 3 refine go_s rfl rfl rfl trivial ?_
      rw [nI_add]
      iterate 4 refine go_s rfl rfl rfl trivial ?_
      refine go_if (fun _ => ?_) (fun hc => absurd (nI_lt (a := stX X t + f + k) (b := 400) (by omega) (by omega)) hc)
      iterate 4 refine go_s rfl rfl rfl trivial ?_
      rw [nI_add]
      refine go_s rfl rfl rfl ?_ ?_
      · exact vp_in_nI (by omega) (by omega)
      rw [ck, g1]
      iterate 5 refine go_s rfl rfl rfl trivial ?_
      refine go_if (fun hc => ?_) (fun hc => ?_)
      · exact nx (Or.inl ((encO_z ho).mp ((lg_cmp_eq _ _).mp hc))) _ _
      · obtain ⟨u, hu⟩ : ∃ u, E l (wq (first + k)) = some u := by
          cases q : E l (wq (first + k)) with
          | none => exact absurd ((lg_cmp_eq _ _).mpr ((encO_z ho).mpr q)) hc
          | some u => exact ⟨u, rfl⟩
        have hiff := encO_inj (o := E l (xwd X t (f + k))) (fun u hu => he l l3 _ u hwk hu) (ho u hu)
        iterate 5 refine go_s rfl rfl rfl trivial ?_
        rw [nI_add, ef]
        refine go_s rfl rfl rfl ?_ ?_
        · exact vp_in_nI (by omega) (by omega)
        rw [cf, eg]
        iterate 3 refine go_s rfl rfl rfl trivial ?_
        rw [hu]
        refine go_if (fun hc1 => ?_) (fun hc1 => ?_)
        · have := nx (Or.inr (by rw [hu]; exact hiff.mp ((lg_cmp_eq _ _).mp hc1)))
          exact this _ _
        · iterate 1 refine go_s rfl rfl rfl trivial ?_
          refine go_r rfl rfl rfl (Or.inl rfl) ⟨?_, rfl⟩
          rw [b01_f]
          intro q
          rcases q k (by omega) with g | g
          · rw [hu] at g; cases g
          · rw [hu] at g
            exact hc1 ((lg_cmp_eq _ _).mpr (hiff.mpr g))
  iterate 2 refine go_s rfl rfl rfl trivial ?_
  exact key n 0 _ _ (by omega) (fun j hj => absurd hj (Nat.not_lt_zero j))
theorem c_Sh_hasPhrase (h : cXs X J N G) (hs : cXt X G E) (he : eok E) {t l first n : Nat} {wq : Nat → List Nat} (ht : t < xnt X) (hl : xlg X t = some l) (hq : cSq G E l wq first n) (h48 : first + n ≤ 48) : Do m_Sh_hasPhrase [.ref 25, .ref 36, .int (nI first), .int (nI n), .int (nI t)] (hC L xs J N G U p M D) (fun r h' => r = some (.int (b01 (phQ E X l t wq first n))) ∧ h' = hC L xs J N G U p M D) := by
  obtain ⟨t40, l3, c48, b400, e1, e2, hw⟩ := h.of ht hl
  have key : ∀ (d f : Nat), xcn X t + 1 - (f + n) = d → f < 100 → (∀ f', f' < f → ¬ ∀ k, k < n → okW E X l t wq first f' k) → Go m_Sh_hasPhrase 16 [some (.ref 25), some (.ref 36), some (.int (nI first)), some (.int (nI n)), some (.int (nI t)), some (.int (nI (stX X t + xcn X t))), some (.int (nI (stX X t + f)))] [] (hC L xs J N G U p M D) (fun r h' => r = some (.int (b01 (phQ E X l t wq first n))) ∧ h' = hC L xs J N G U p M D) := by
    intro d
    induction d with
    | zero =>
      intro f hd hf hno
      iterate 3 refine go_s rfl rfl rfl trivial ?_
      rw [nI_add]
      iterate 2 refine go_s rfl rfl rfl trivial ?_
      refine go_if (fun _ => ?_) (fun hc => absurd ((nI_ltI (a := stX X t + xcn X t) (b := stX X t + f + n) (by omega) (by omega)).mpr (by omega)) hc)
      iterate 1 refine go_s rfl rfl rfl trivial ?_
      refine go_r rfl rfl rfl (Or.inl rfl) ⟨?_, rfl⟩
      rw [b01_f]
      rintro ⟨f', q1, q2⟩
      exact hno f' (by omega) q2
    | succ d ih =>
      intro f hd hf hno
      iterate 3 refine go_s rfl rfl rfl trivial ?_
      rw [nI_add]
      iterate 2 refine go_s rfl rfl rfl trivial ?_
      refine go_if (fun hc => absurd ((nI_ltI (a := stX X t + xcn X t) (b := stX X t + f + n) (by omega) (by omega)).mp hc) (by omega)) (fun _ => ?_)
      iterate 5 refine go_s rfl rfl rfl trivial ?_
      refine go_c rfl rfl rfl (c_standsAt h hs he ht hl hq h48 (f := f) (by omega)) ?_
      rintro r h1 ⟨rfl, rfl⟩
      iterate 1 refine go_s rfl rfl rfl trivial ?_
      refine go_if (fun hc => ?_) (fun hc => ?_)
      · have hn := b01_eq0.mp hc
        iterate 2 refine go_s rfl rfl rfl trivial ?_
        rw [nI_1]
        refine ih (f + 1) (by omega) (by omega) (fun f' hf' => ?_)
        rcases Nat.lt_or_ge f' f with g | g
        · exact hno f' g
        · rw [show f' = f by omega]; exact hn
      · have hy : ∀ k, k < n → okW E X l t wq first f k := Classical.not_not.mp fun q => hc (b01_f q)
        iterate 1 refine go_s rfl rfl rfl trivial ?_
        exact go_r rfl rfl rfl (Or.inr rfl) ⟨by rw [b01_t ⟨f, by omega, hy⟩], rfl⟩
  iterate 2 refine go_s rfl rfl rfl trivial ?_
  refine go_c rfl rfl rfl (c_endOf h (t := t) (by omega)) ?_
  rintro r h1 ⟨rfl, rfl⟩
  iterate 3 refine go_s rfl rfl rfl trivial ?_
  refine go_c rfl rfl rfl (c_firstOf h (t := t) (by omega)) ?_
  rintro r h1 ⟨rfl, rfl⟩
  rw [e1, e2]
  iterate 1 refine go_s rfl rfl rfl trivial ?_
  exact key _ 0 rfl (by omega) (fun f' hf' => absurd hf' (Nat.not_lt_zero f'))
def wuI (o : Option (List Nat)) (w : List Nat) : Int64 := match o with
  | none => 0
  | some _ => lN (enc w)
theorem c_wordUnlessStop (h : cXs X J N G) (hs : cXt X G E) (he : eok E) {t l q : Nat} (ht : t < xnt X) (hl : xlg X t = some l) (hq : q < xcn X t) : Do m_Sh_wordUnlessStop [.ref 25, .int (nI (stX X t + q))] (hC L xs J N G U p M D) (fun r h' => r = some (.long (wuI (E l (xwd X t q)) (xwd X t q))) ∧ h' = hC L xs J N G U p M D) := by
  obtain ⟨t40, l3, c48, b400, e1, e2, hw⟩ := h.of ht hl
  have hle := stX_le X (t := t + 1) (n := xnt X) ht
  have hst := stX_s X t
  have ck : (nI (stX X t + q)).toNatClampNeg = stX X t + q := nI_clamp (by omega)
  have eg := hs t ht l hl q hq
  obtain ⟨ew, hwk⟩ := hw q hq
  have a4 := h.2.2.2.1
  have ho : ∀ u, E l (xwd X t q) = some u → wok u := fun u hu => he l l3 _ u hwk hu
  iterate 2 refine go_s rfl rfl rfl trivial ?_
  refine go_if (fun hc => absurd hc (nI_pos (by omega))) (fun _ => ?_)
  iterate 3 refine go_s rfl rfl rfl trivial ?_
  rw [h.2.1]
  iterate 1 refine go_s rfl rfl rfl trivial ?_
  refine go_if (fun hc => absurd hc (nI_ge (by omega) (by omega))) (fun _ => ?_)
  iterate 3 refine go_s rfl rfl rfl trivial ?_
  refine go_if (fun hc => absurd hc (nI_ge (a := stX X t + q) (b := 400) (by omega) (by omega))) (fun _ => ?_)
  iterate 5 refine go_s rfl rfl rfl trivial ?_
  refine go_if (fun hc => absurd hc (by decide)) (fun _ => ?_)
  iterate 3 refine go_s rfl rfl rfl trivial ?_
  refine go_s rfl rfl rfl ?_ ?_
  · exact vp_in_nI (by omega) (by omega)
  rw [ck, eg]
  iterate 3 refine go_s rfl rfl rfl trivial ?_
  refine go_if (fun hc => ?_) (fun hc => ?_)
  · have hz := (encO_z ho).mp ((lg_cmp_eq _ _).mp hc)
    iterate 1 refine go_s rfl rfl rfl trivial ?_
    exact go_r rfl rfl rfl trivial ⟨by rw [hz]; rfl, rfl⟩
  · cases hE : E l (xwd X t q) with
    | none => exact absurd ((lg_cmp_eq _ _).mpr ((encO_z ho).mpr hE)) hc
    | some u =>
      iterate 3 refine go_s rfl rfl rfl trivial ?_
      refine go_s rfl rfl rfl ?_ ?_
      · exact vp_in_nI (by omega) (by omega)
      rw [ck, ew]
      iterate 1 refine go_s rfl rfl rfl trivial ?_
      exact go_r rfl rfl rfl trivial ⟨rfl, rfl⟩
theorem c_hasEarlier (h : cXs X J N G) (hs : cXt X G E) (he : eok E) {t l q : Nat} {v : List Nat} (ht : t < xnt X) (hl : xlg X t = some l) (hq : q < xcn X t) (hv : E l (xwd X t q) = some v) : Do m_Sh_hasEarlier [.ref 25, .int (nI (stX X t + q)), .int (nI t), .int (nI l)] (hC L xs J N G U p M D) (fun r h' => r = some (.int (b01 (earQ E (xlg X) (xcn X) (xwd X) l t q v))) ∧ h' = hC L xs J N G U p M D) := by
  obtain ⟨t40, l3, c48, b400, e1, e2, hw⟩ := h.of ht hl
  have cq : (nI (stX X t + q)).toNatClampNeg = stX X t + q := nI_clamp (by omega)
  have eq := hs t ht l hl q hq
  have hvok := he l l3 _ v (hw q hq).2 hv
  have key : ∀ (d o : Nat) (X5 X6 : Option Value), t + 1 = o + d → (∀ t' p', t' < o → ¬ (xlg X t' = some l ∧ p' < (if t' < t then xcn X t' else q) ∧ E l (xwd X t' p') = some v)) → Go m_Sh_hasEarlier 3 [some (.ref 25), some (.int (nI (stX X t + q))), some (.int (nI t)), some (.int (nI l)), some (.int (nI o)), X5, X6] [] (hC L xs J N G U p M D) (fun r h' => r = some (.int (b01 (earQ E (xlg X) (xcn X) (xwd X) l t q v))) ∧ h' = hC L xs J N G U p M D) := by
    intro d
    induction d with
    | zero =>
      intro o X5 X6 ho hno
      iterate 3 refine go_s rfl rfl rfl trivial ?_
      refine go_if (fun _ => ?_) (fun hc => absurd (nI_lt (by omega) (by omega)) hc)
      iterate 1 refine go_s rfl rfl rfl trivial ?_
      refine go_r rfl rfl rfl (Or.inl rfl) ⟨?_, rfl⟩
      rw [b01_f]
      rintro ⟨t', p', q1, q2, q3, q4⟩
      exact hno t' p' (by omega) ⟨q2, q3, q4⟩
    | succ d ih =>
      intro o X5 X6 ho hno
      have nx : (∀ p', ¬ (xlg X o = some l ∧ p' < (if o < t then xcn X o else q) ∧ E l (xwd X o p') = some v)) → ∀ Y5 Y6, Go m_Sh_hasEarlier 72 [some (.ref 25), some (.int (nI (stX X t + q))), some (.int (nI t)), some (.int (nI l)), some (.int (nI o)), Y5, Y6] [] (hC L xs J N G U p M D) (fun r h' => r = some (.int (b01 (earQ E (xlg X) (xcn X) (xwd X) l t q v))) ∧ h' = hC L xs J N G U p M D) := by
        intro hn Y5 Y6
        iterate 2 refine go_s rfl rfl rfl trivial ?_
        rw [nI_1]
        refine ih (o + 1) Y5 Y6 (by omega) (fun t' p' ht' => ?_)
        rcases Nat.lt_or_ge t' o with g | g
        · exact hno t' p' g
        · rw [show t' = o by omega]; exact hn p'
      iterate 3 refine go_s rfl rfl rfl trivial ?_
      refine go_if (fun hc => absurd hc (nI_nlt (by omega) (by omega))) (fun _ => ?_)
      iterate 4 refine go_s rfl rfl rfl trivial ?_
      refine go_c rfl rfl rfl (c_isIn1 h (t := o) (by omega) l3) ?_
      rintro r h1 ⟨rfl, rfl⟩
      iterate 1 refine go_s rfl rfl rfl trivial ?_
      refine go_if (fun hc => nx (fun p' g => b01_eq0.mp hc ⟨by omega, g.1⟩) _ _) (fun hc => ?_)
      obtain ⟨ho1, hol⟩ : o < xnt X ∧ xlg X o = some l := Classical.not_not.mp fun q => hc (b01_f q)
      obtain ⟨o40, -, oc48, ob400, oe1, oe2, ohw⟩ := h.of ho1 hol
      iterate 3 refine go_s rfl rfl rfl trivial ?_
      refine go_c rfl rfl rfl (c_endOf h (t := o) (by omega)) ?_
      rintro r h1 ⟨rfl, rfl⟩
      rw [oe2]
      iterate 1 refine go_s rfl rfl rfl trivial ?_
      rw [minI (by omega) (by omega)]
      have em : min (stX X t + q) (stX X o + xcn X o) = stX X o + (if o < t then xcn X o else q) := by
        by_cases g : o < t
        · have := stX_le X (t := o + 1) (n := t) g
          rw [stX_s] at this
          rw [if_pos g]
          omega
        · rw [if_neg g, show o = t by omega]
          omega
      rw [em]
      have hk48 : (if o < t then xcn X o else q) ≤ xcn X o := by
        by_cases g : o < t
        · rw [if_pos g]; exact Nat.le_refl _
        · rw [if_neg g, show o = t by omega]; omega
      iterate 3 refine go_s rfl rfl rfl trivial ?_
      refine go_c rfl rfl rfl (c_firstOf h (t := o) (by omega)) ?_
      rintro r h1 ⟨rfl, rfl⟩
      rw [oe1]
      iterate 1 refine go_s rfl rfl rfl trivial ?_
      generalize hke : (if o < t then xcn X o else q) = ke at *
      have inner : ∀ (d k : Nat), ke = k + d → (∀ p', p' < k → E l (xwd X o p') ≠ some v) → Go m_Sh_hasEarlier 40 [some (.ref 25), some (.int (nI (stX X t + q))), some (.int (nI t)), some (.int (nI l)), some (.int (nI o)), some (.int (nI (stX X o + ke))), some (.int (nI (stX X o + k)))] [] (hC L xs J N G U p M D) (fun r h' => r = some (.int (b01 (earQ E (xlg X) (xcn X) (xwd X) l t q v))) ∧ h' = hC L xs J N G U p M D) := by
        intro d
        induction d with
        | zero =>
          intro k hk hn
          have ek : k = ke := by omega
          subst ek
          iterate 3 refine go_s rfl rfl rfl trivial ?_
          refine go_if (fun _ => ?_) (fun hc => absurd (Int32.le_refl _) hc)
          exact nx (fun p' g => hn p' g.2.1 g.2.2) _ _
        | succ d ih2 =>
          intro k hk hn
          have ck : (nI (stX X o + k)).toNatClampNeg = stX X o + k := nI_clamp (by omega)
          have eg := hs o ho1 l hol k (by omega)
          have hiff := encO_inj (o := E l (xwd X o k)) (fun u hu => he l l3 _ u (ohw k (by omega)).2 hu) hvok
          iterate 3 refine go_s rfl rfl rfl trivial ?_
          refine go_if (fun hc => absurd hc (nI_ge (by omega) (by omega))) (fun _ => ?_)
          iterate 3 refine go_s rfl rfl rfl trivial ?_
          refine go_s rfl rfl rfl ?_ ?_
          · exact vp_in_nI (by omega) (by omega)
          rw [ck, eg]
          iterate 3 refine go_s rfl rfl rfl trivial ?_
          refine go_s rfl rfl rfl ?_ ?_
          · exact vp_in_nI (by omega) (by omega)
          rw [cq, eq, hv]
          iterate 2 refine go_s rfl rfl rfl trivial ?_
          refine go_if (fun hc1 => ?_) (fun hc1 => ?_)
          · iterate 2 refine go_s rfl rfl rfl trivial ?_
            rw [nI_1]
            refine ih2 (k + 1) (by omega) (fun p' hp' => ?_)
            rcases Nat.lt_or_ge p' k with g | g
            · exact hn p' g
            · rw [show p' = k by omega]
              exact fun g => hc1 ((lg_cmp_eq _ _).mpr (hiff.mpr g))
          · have g := hiff.mp ((lg_cmp_eq _ _).mp (Classical.not_not.mp hc1))
            iterate 1 refine go_s rfl rfl rfl trivial ?_
            refine go_r rfl rfl rfl (Or.inr rfl) ⟨?_, rfl⟩
            rw [b01_t ⟨o, k, by omega, hol, by rw [hke]; omega, g⟩]
      exact inner ke 0 (by omega) (fun p' hp' => absurd hp' (Nat.not_lt_zero p'))
  iterate 2 refine go_s rfl rfl rfl trivial ?_
  exact key (t + 1) 0 _ _ (by omega) (fun t' p' ht' => absurd ht' (Nat.not_lt_zero t'))
theorem c_countNewStems (h : cXs X J N G) (hs : cXt X G E) (he : eok E) {t l : Nat} (ht : t < xnt X) (hl : xlg X t = some l) : Do m_Sh_countNewStems [.ref 25, .int (nI t), .int (nI l)] (hC L xs J N G U p M D) (fun r h' => r = some (.int (nI (cnt (fstQ E (xlg X) (xcn X) (xwd X) l t) (xcn X t)))) ∧ h' = hC L xs J N G U p M D) := by
  obtain ⟨t40, l3, c48, b400, e1, e2, hw⟩ := h.of ht hl
  have key : ∀ (d k : Nat), xcn X t = k + d → Go m_Sh_countNewStems 16 [some (.ref 25), some (.int (nI t)), some (.int (nI l)), some (.int (nI (cnt (fstQ E (xlg X) (xcn X) (xwd X) l t) k))), some (.int (nI (stX X t + xcn X t))), some (.int (nI (stX X t + k)))] [] (hC L xs J N G U p M D) (fun r h' => r = some (.int (nI (cnt (fstQ E (xlg X) (xcn X) (xwd X) l t) (xcn X t)))) ∧ h' = hC L xs J N G U p M D) := by
    intro d
    induction d with
    | zero =>
      intro k hk
      have ek : k = xcn X t := by omega
      subst ek
      iterate 3 refine go_s rfl rfl rfl trivial ?_
      refine go_if (fun _ => ?_) (fun hc => absurd (Int32.le_refl _) hc)
      iterate 1 refine go_s rfl rfl rfl trivial ?_
      exact go_r rfl rfl rfl trivial ⟨rfl, rfl⟩
    | succ d ih =>
      intro k hk
      have ck : (nI (stX X t + k)).toNatClampNeg = stX X t + k := nI_clamp (by omega)
      have eg := hs t ht l hl k (by omega)
      have hwk := (hw k (by omega)).2
      have ho : ∀ u, E l (xwd X t k) = some u → wok u := fun u hu => he l l3 _ u hwk hu
      have nx : Go m_Sh_countNewStems 49 [some (.ref 25), some (.int (nI t)), some (.int (nI l)), some (.int (nI (cnt (fstQ E (xlg X) (xcn X) (xwd X) l t) (k + 1)))), some (.int (nI (stX X t + xcn X t))), some (.int (nI (stX X t + k)))] [] (hC L xs J N G U p M D) (fun r h' => r = some (.int (nI (cnt (fstQ E (xlg X) (xcn X) (xwd X) l t) (xcn X t)))) ∧ h' = hC L xs J N G U p M D) := by
        iterate 2 refine go_s rfl rfl rfl trivial ?_
        rw [nI_1]
        exact ih (k + 1) (by omega)
      iterate 3 refine go_s rfl rfl rfl trivial ?_
      refine go_if (fun hc => absurd hc (nI_ge (by omega) (by omega))) (fun _ => ?_)
      iterate 3 refine go_s rfl rfl rfl trivial ?_
      refine go_s rfl rfl rfl ?_ ?_
      · exact vp_in_nI (by omega) (by omega)
      rw [ck, eg]
      iterate 3 refine go_s rfl rfl rfl trivial ?_
      refine go_if (fun hc => ?_) (fun hc => ?_)
      · have hz := (encO_z ho).mp ((lg_cmp_eq _ _).mp hc)
        rw [cnt_f (by rintro ⟨u, q1, -⟩; rw [hz] at q1; cases q1)] at nx
        exact nx
      · obtain ⟨u, hE⟩ : ∃ u, E l (xwd X t k) = some u := by
          cases q : E l (xwd X t k) with
          | none => exact absurd ((lg_cmp_eq _ _).mpr ((encO_z ho).mpr q)) hc
          | some u => exact ⟨u, rfl⟩
        have hiff : fstQ E (xlg X) (xcn X) (xwd X) l t k ↔ ¬ earQ E (xlg X) (xcn X) (xwd X) l t k u := by
          constructor
          · rintro ⟨v, q1, q2⟩
            rw [hE] at q1
            cases q1
            exact q2
          · exact fun q => ⟨u, hE, q⟩
        iterate 4 refine go_s rfl rfl rfl trivial ?_
        refine go_c rfl rfl rfl (c_hasEarlier h hs he ht hl (q := k) (by omega) hE) ?_
        rintro r h1 ⟨rfl, rfl⟩
        iterate 1 refine go_s rfl rfl rfl trivial ?_
        refine go_if (fun hc1 => ?_) (fun hc1 => ?_)
        · have g : earQ E (xlg X) (xcn X) (xwd X) l t k u := Classical.not_not.mp fun q => hc1 (b01_f q)
          rw [cnt_f (fun q => hiff.mp q g)] at nx
          exact nx
        · have g := b01_eq0.mp (Classical.not_not.mp hc1)
          rw [cnt_t (hiff.mpr g)] at nx
          iterate 1 refine go_s rfl rfl rfl trivial ?_
          rw [nI_1]
          exact nx
  iterate 4 refine go_s rfl rfl rfl trivial ?_
  refine go_c rfl rfl rfl (c_endOf h (t := t) (by omega)) ?_
  rintro r h1 ⟨rfl, rfl⟩
  iterate 3 refine go_s rfl rfl rfl trivial ?_
  refine go_c rfl rfl rfl (c_firstOf h (t := t) (by omega)) ?_
  rintro r h1 ⟨rfl, rfl⟩
  rw [e1, e2]
  iterate 1 refine go_s rfl rfl rfl trivial ?_
  exact key (xcn X t) 0 (by omega)
theorem c_Sh_countStems (h : cXs X J N G) (hs : cXt X G E) (he : eok E) {l : Nat} (hl : l < 3) : Do m_Sh_countStems [.ref 25, .int (nI l)] (hC L xs J N G U p M D) (fun r h' => r = some (.int (nI (sumN (stT E (xlg X) (xcn X) (xwd X) l) (xnt X)))) ∧ h' = hC L xs J N G U p M D) := by
  have a3 := h.2.2.1
  have key : ∀ (d t : Nat), xnt X = t + d → Go m_Sh_countStems 4 [some (.ref 25), some (.int (nI l)), some (.int (nI (sumN (stT E (xlg X) (xcn X) (xwd X) l) t))), some (.int (nI t))] [] (hC L xs J N G U p M D) (fun r h' => r = some (.int (nI (sumN (stT E (xlg X) (xcn X) (xwd X) l) (xnt X)))) ∧ h' = hC L xs J N G U p M D) := by
    intro d
    induction d with
    | zero =>
      intro t ht
      have et : t = xnt X := by omega
      subst et
      iterate 3 refine go_s rfl rfl rfl trivial ?_
      rw [h.1]
      iterate 1 refine go_s rfl rfl rfl trivial ?_
      refine go_if (fun _ => ?_) (fun hc => absurd (Int32.le_refl _) hc)
      iterate 1 refine go_s rfl rfl rfl trivial ?_
      exact go_r rfl rfl rfl trivial ⟨rfl, rfl⟩
    | succ d ih =>
      intro t ht
      have nx : Go m_Sh_countStems 31 [some (.ref 25), some (.int (nI l)), some (.int (nI (sumN (stT E (xlg X) (xcn X) (xwd X) l) (t + 1)))), some (.int (nI t))] [] (hC L xs J N G U p M D) (fun r h' => r = some (.int (nI (sumN (stT E (xlg X) (xcn X) (xwd X) l) (xnt X)))) ∧ h' = hC L xs J N G U p M D) := by
        iterate 2 refine go_s rfl rfl rfl trivial ?_
        rw [nI_1]
        exact ih (t + 1) (by omega)
      iterate 3 refine go_s rfl rfl rfl trivial ?_
      rw [h.1]
      iterate 1 refine go_s rfl rfl rfl trivial ?_
      refine go_if (fun hc => absurd hc (nI_ge (by omega) (by omega))) (fun _ => ?_)
      iterate 4 refine go_s rfl rfl rfl trivial ?_
      refine go_c rfl rfl rfl (c_isIn1 h (t := t) (by omega) hl) ?_
      rintro r h1 ⟨rfl, rfl⟩
      iterate 1 refine go_s rfl rfl rfl trivial ?_
      refine go_if (fun hc => ?_) (fun hc => ?_)
      · have hn : ¬ xlg X t = some l := fun q => b01_eq0.mp hc ⟨by omega, q⟩
        have es : sumN (stT E (xlg X) (xcn X) (xwd X) l) (t + 1) = sumN (stT E (xlg X) (xcn X) (xwd X) l) t := by
          simp only [sumN, stT, if_neg hn, Nat.add_zero]
        rw [es] at nx
        exact nx
      · obtain ⟨-, hlt⟩ : t < xnt X ∧ xlg X t = some l := Classical.not_not.mp fun q => hc (b01_f q)
        have es : sumN (stT E (xlg X) (xcn X) (xwd X) l) (t + 1) = sumN (stT E (xlg X) (xcn X) (xwd X) l) t + cnt (fstQ E (xlg X) (xcn X) (xwd X) l t) (xcn X t) := by
          simp only [sumN, stT, if_pos hlt]
        iterate 4 refine go_s rfl rfl rfl trivial ?_
        refine go_c rfl rfl rfl (c_countNewStems h hs he (t := t) (by omega) hlt) ?_
        rintro r h1 ⟨rfl, rfl⟩
        iterate 1 refine go_s rfl rfl rfl trivial ?_
        rw [nI_add, ← es]
        iterate 1 refine go_s rfl rfl rfl trivial ?_
        exact nx
  iterate 4 refine go_s rfl rfl rfl trivial ?_
  exact key (xnt X) 0 (by omega)
end SHELF2
