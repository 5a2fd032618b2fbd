/-! ===== the reference: the stems that count, scores ===== -/
/-- the stem that a part counts for -/
noncomputable def trW (E : Nat → List Nat → Option (List Nat)) (l : Nat) (Q : tx_Q) (i : Nat) : Option (List Nat) := if (Q.2.1 i).2.1 = 0 ∧ (Q.2.1 i).2.2.1 = false then E l (Q.2.2.2 (Q.2.1 i).2.2.2.1) else none
noncomputable def trA (L : List (List Nat)) (o : Option (List Nat)) : List (List Nat) := match o with
  | none => L
  | some u => ifp (u ∈ L) L (L ++ [u])
noncomputable def trF (E : Nat → List Nat → Option (List Nat)) (l : Nat) (Q : tx_Q) : Nat → List (List Nat)
  | 0 => []
  | k + 1 => trA (trF E l Q k) (trW E l Q k)
theorem trA_le (L : List (List Nat)) (o : Option (List Nat)) : (trA L o).length ≤ L.length + 1 := by
  cases o with
  | none => show L.length ≤ _; omega
  | some u =>
    simp only [trA]
    by_cases q : u ∈ L
    · rw [ifp_t q]; omega
    · rw [ifp_f q, List.length_append]; exact Nat.le_refl _
theorem trF_le (E : Nat → List Nat → Option (List Nat)) (l : Nat) (Q : tx_Q) : ∀ k, (trF E l Q k).length ≤ k
  | 0 => Nat.le_refl _
  | k + 1 => Nat.le_trans (trA_le _ _) (Nat.succ_le_succ (trF_le E l Q k))
/-- words at 4064 .. 4111 and from 6032 on may have changed, the other rows haven't -/
def wsd (B : Nat → Nat → Int32) (μ : Nat → List Nat) (B' : Nat → Nat → Int32) (μ' : Nat → List Nat) : Prop := wsame B B' ∧ wm B' μ' ∧ ∀ a, a < 4064 ∨ (4112 ≤ a ∧ a < 6032) → μ' a = μ a
theorem wsd.rf {B : Nat → Nat → Int32} {μ : Nat → List Nat} (hw : wm B μ) : wsd B μ B μ := ⟨wsame.rf B, hw, fun _ _ => rfl⟩
theorem wsd.tr {B B1 B2 : Nat → Nat → Int32} {μ μ1 μ2 : Nat → List Nat} (h1 : wsd B μ B1 μ1) (h2 : wsd B1 μ1 B2 μ2) : wsd B μ B2 μ2 := ⟨h1.1.tr h2.1, h2.2.1, fun a ha => (h2.2.2 a ha).trans (h1.2.2 a ha)⟩
theorem wsd.c {B B' : Nat → Nat → Int32} {μ μ' : Nat → List Nat} (h : wsd B μ B' μ') : wsc 4064 B μ B' μ' := ⟨h.1, h.2.1, fun a ha => h.2.2 a (Or.inl ha)⟩
theorem wsc.d {k : Nat} {B B' : Nat → Nat → Int32} {μ μ' : Nat → List Nat} (h : wsc k B μ B' μ') (hk : 6032 ≤ k) : wsd B μ B' μ' := ⟨h.1, h.2.1, fun a ha => h.2.2 a (by omega)⟩
def trm (L : List (List Nat)) (μ : Nat → List Nat) : Prop := ∀ k, k < L.length → μ (4064 + k) = L.getD k []
theorem mem_getD {L : List (List Nat)} {u : List Nat} : u ∈ L ↔ ∃ k, k < L.length ∧ L.getD k [] = u := by
  constructor
  · intro h
    obtain ⟨k, hk, e⟩ := List.getElem_of_mem h
    refine ⟨k, hk, ?_⟩
    rw [List.getD_eq_getElem?_getD, List.getElem?_eq_getElem hk]
    exact e
  · rintro ⟨k, hk, e⟩
    rw [List.getD_eq_getElem?_getD, List.getElem?_eq_getElem hk] at e
    rw [← e]
    exact List.getElem_mem hk
noncomputable def mnQ (E : Nat → List Nat → Option (List Nat)) (X : tx_X) (l : Nat) (f : Int32) (v : List Nat) : Nat := cnt (fun t => askedP X l t f ∧ 0 < tmQ E X l t 0 v) (xnt X)
noncomputable def shQ (E : Nat → List Nat → Option (List Nat)) (X : tx_X) (l : Nat) (f : Int32) (v : List Nat) : Int64 := if 0 < mnQ E X l f v then 5342931457063200 / (nI (mnQ E X l f v)).toInt64 else 0
noncomputable def scF (E : Nat → List Nat → Option (List Nat)) (X : tx_X) (l : Nat) (f : Int32) (t : Nat) (L : List (List Nat)) : Nat → Int64
  | 0 => 0
  | k + 1 => scF E X l f t L k + (nI (tmQ E X l t 0 (L.getD k []))).toInt64 * shQ E X l f (L.getD k [])
section MASK2
variable {T : Nat → am_C} {D : List am_C} {I : Nat → Int32} {S : Nat → Int64} {E : Nat → List Nat → Option (List Nat)} {X : tx_X} {Q : tx_Q} {K : Option Value → List am_C → Prop}
theorem e4064 (n : Nat) : (4064 : Int32) + nI n = nI (4064 + n) := by rw [show (4064 : Int32) = nI 4064 from rfl, nI_add]
theorem l_cs60 {B : Nat → Nat → Int32} {μ : Nat → List Nat} {l p : Nat} {L : List (List Nat)} {u : List Nat} (hw : wm B μ) (hL : L.length ≤ 47) (ht : trm L μ) (hu : μ (4064 + L.length) = u) : ∀ (d k : Nat), L.length = k + d →
    (Go m_Mo_countStems 102 [some (.ref 48), some (.int (nI l)), some (.int (nI L.length)), some (.int (nI p)), some (.int (b01 (u ∈ L))), some (.int (nI L.length))] [] (hM T I B S D) K) →
    Go m_Mo_countStems 60 [some (.ref 48), some (.int (nI l)), some (.int (nI L.length)), some (.int (nI p)), some (.int (b01 (∃ j, j < k ∧ L.getD j [] = u))), some (.int (nI k))] [] (hM T I B S D) K := by
  intro d
  induction d with
  | zero =>
    intro k hk kk
    have ek : k = L.length := by omega
    subst ek
    rw [show (∃ j, j < L.length ∧ L.getD j [] = u) = (u ∈ L) from propext mem_getD.symm]
    iterate 3 refine go_s rfl rfl rfl trivial ?_
    exact go_if (fun _ => kk) (fun hc => absurd (Int32.le_refl _) hc)
  | succ d ih =>
    intro k hk kk
    have key : ∀ g : Int32, (g = b01 (∃ j, j < k + 1 ∧ L.getD j [] = u)) → Go m_Mo_countStems 94 [some (.ref 48), some (.int (nI l)), some (.int (nI L.length)), some (.int (nI p)), some (.int (b01 (∃ j, j < k ∧ L.getD j [] = u))), some (.int (nI k))] [.int g] (hM T I B S D) K := by
      rintro g rfl
      iterate 3 refine go_s rfl rfl rfl trivial ?_
      rw [nI_1]
      exact ih (k + 1) (by omega) kk
    iterate 3 refine go_s rfl rfl rfl trivial ?_
    refine go_if (fun hc => absurd hc (nI_ge (by omega) (by omega))) (fun _ => ?_)
    iterate 2 refine go_s rfl rfl rfl trivial ?_
    refine go_if (fun hc => ?_) (fun hc => ?_)
    · obtain ⟨j, j1, j2⟩ : ∃ j, j < k ∧ L.getD j [] = u := Classical.not_not.mp fun q => hc (b01_f q)
      iterate 2 refine go_s rfl rfl rfl trivial ?_
      exact key 1 (b01_t ⟨j, by omega, j2⟩).symm
    · have hno : ¬ ∃ j, j < k ∧ L.getD j [] = u := b01_eq0.mp (Classical.not_not.mp hc)
      iterate 7 refine go_s rfl rfl rfl trivial ?_
      rw [e4064, e4064]
      refine go_c rfl rfl rfl (c_same hw (a := 4064 + k) (b := 4064 + L.length) (by omega) (by omega)) ?_
      rintro r h0 ⟨rfl, rfl⟩
      rw [ht k (by omega), hu]
      iterate 1 refine go_s rfl rfl rfl trivial ?_
      refine go_if (fun hc => ?_) (fun hc => ?_)
      · have hn := b01_eq0.mp hc
        iterate 1 refine go_s rfl rfl rfl trivial ?_
        refine key 0 (b01_f ?_).symm
        rintro ⟨j, j1, j2⟩
        rcases Nat.lt_or_ge j k with h | h
        · exact hno ⟨j, h, j2⟩
        · rw [show j = k by omega] at j2
          exact hn j2
      · have hn : L.getD k [] = u := Classical.not_not.mp fun q => hc (b01_f q)
        iterate 2 refine go_s rfl rfl rfl trivial ?_
        exact key 1 (b01_t ⟨k, by omega, hn⟩).symm
theorem l_cs4 {l : Nat} (hf : qfit Q) (hl : l < 3) (h48 : Q.1 ≤ 48) : ∀ (d p : Nat) (X4 X5 : Option Value) (B : Nat → Nat → Int32) (μ : Nat → List Nat), qS X E Q I B μ → Q.1 = p + d → trm (trF E l Q p) μ →
    Go m_Mo_countStems 4 [some (.ref 48), some (.int (nI l)), some (.int (nI (trF E l Q p).length)), some (.int (nI p)), X4, X5] [] (hM T I B S D) (fun r h' => r = some (.int (nI (trF E l Q Q.1).length)) ∧ ∃ B' μ', h' = hM T I B' S D ∧ wsd B μ B' μ' ∧ trm (trF E l Q Q.1) μ') := by
  intro d
  induction d with
  | zero =>
    intro p X4 X5 B μ hq hd ht
    obtain ⟨h1, h2, h3, h4, h5, h6, h7⟩ := id hq
    have ep : p = Q.1 := by omega
    subst ep
    iterate 3 refine go_s rfl rfl rfl trivial ?_
    rw [h7]
    iterate 1 refine go_s rfl rfl rfl trivial ?_
    refine go_if (fun _ => ?_) (fun hc => absurd (Int32.le_refl _) hc)
    iterate 1 refine go_s rfl rfl rfl trivial ?_
    exact go_r rfl rfl rfl trivial ⟨rfl, B, μ, rfl, wsd.rf h1, ht⟩
  | succ d ih =>
    intro p X4 X5 B μ hq hd ht
    obtain ⟨h1, h2, h3, h4, h5, h6, h7⟩ := id hq
    obtain ⟨m12, m13, m14, m15⟩ := h4.1 p (by omega)
    obtain ⟨f1, f2, f3, f4⟩ := hf p (by omega)
    have cp : (nI p).toNatClampNeg = p := nI_clamp (by omega)
    have hle := trF_le E l Q p
    have hwq : μ (4016 + (Q.2.1 p).2.2.2.1) = Q.2.2.2 (Q.2.1 p).2.2.2.1 := h4.2 _ (by omega)
    have next : ∀ (B1 : Nat → Nat → Int32) (μ1 : Nat → List Nat) (Y4 Y5 : Option Value) (n : Int32), wsd B μ B1 μ1 → trm (trF E l Q (p + 1)) μ1 → n = nI (trF E l Q (p + 1)).length → Go m_Mo_countStems 115 [some (.ref 48), some (.int (nI l)), some (.int n), some (.int (nI p)), Y4, Y5] [] (hM T I B1 S D) (fun r h' => r = some (.int (nI (trF E l Q Q.1).length)) ∧ ∃ B' μ', h' = hM T I B' S D ∧ wsd B μ B' μ' ∧ trm (trF E l Q Q.1) μ') := by
      rintro B1 μ1 Y4 Y5 n hs1 ht1 rfl
      iterate 2 refine go_s rfl rfl rfl trivial ?_
      rw [nI_1]
      refine (ih (p + 1) Y4 Y5 B1 μ1 (hq.keepc hs1.c (by omega)) (by omega) ht1).mono fun r h' h => ?_
      obtain ⟨g1, B2, μ2, g2, g3, g4⟩ := h
      exact ⟨g1, B2, μ2, g2, hs1.tr g3, g4⟩
    have skip : trW E l Q p = none → ∀ Y4 Y5, Go m_Mo_countStems 115 [some (.ref 48), some (.int (nI l)), some (.int (nI (trF E l Q p).length)), some (.int (nI p)), Y4, Y5] [] (hM T I B S D) (fun r h' => r = some (.int (nI (trF E l Q Q.1).length)) ∧ ∃ B' μ', h' = hM T I B' S D ∧ wsd B μ B' μ' ∧ trm (trF E l Q Q.1) μ') := by
      intro hn Y4 Y5
      have e : trF E l Q (p + 1) = trF E l Q p := by rw [trF, hn, trA]
      exact next B μ Y4 Y5 _ (wsd.rf h1) (by rw [e]; exact ht) (by rw [e])
    iterate 3 refine go_s rfl rfl rfl trivial ?_
    rw [h7]
    iterate 1 refine go_s rfl rfl rfl trivial ?_
    refine go_if (fun hc => absurd hc (nI_ge (by omega) (by omega))) (fun _ => ?_)
    iterate 3 refine go_s rfl rfl rfl trivial ?_
    refine go_s rfl rfl rfl ?_ ?_
    · exact vp_in_nI (by omega) (by omega)
    simp only [cp, m13]
    iterate 1 refine go_s rfl rfl rfl trivial ?_
    refine go_if (fun hc => ?_) (fun hc => ?_)
    · refine skip ?_ _ _
      rw [trW, if_neg fun q => hc ((srt_zero _ f2).mpr q)]
    · have hz := (srt_zero _ f2).mp (Classical.not_not.mp hc)
      have eW : trW E l Q p = E l (Q.2.2.2 (Q.2.1 p).2.2.2.1) := if_pos hz
      iterate 5 refine go_s rfl rfl rfl trivial ?_
      refine go_s rfl rfl rfl ?_ ?_
      · exact vp_in_nI (by omega) (by omega)
      simp only [cp, m14]
      refine go_c rfl rfl rfl (c_isStop_E h1 h2 (a := 4016 + (Q.2.1 p).2.2.2.1) (by omega) hl) ?_
      rintro r h0 ⟨rfl, rfl⟩
      rw [hwq]
      iterate 1 refine go_s rfl rfl rfl trivial ?_
      refine go_if (fun hc1 => ?_) (fun hc1 => ?_)
      · have hn := b01_eq0.mp hc1
        obtain ⟨u, hu⟩ : ∃ u, E l (Q.2.2.2 (Q.2.1 p).2.2.2.1) = some u := by
          cases q : E l (Q.2.2.2 (Q.2.1 p).2.2.2.1) with
          | none => exact absurd q hn
          | some u => exact ⟨u, rfl⟩
        iterate 5 refine go_s rfl rfl rfl trivial ?_
        refine go_s rfl rfl rfl ?_ ?_
        · exact vp_in_nI (by omega) (by omega)
        simp only [cp, m14]
        iterate 3 refine go_s rfl rfl rfl trivial ?_
        rw [e4064]
        refine go_c rfl rfl rfl (c_stemTo_E h1 h2 hl (a := 4016 + (Q.2.1 p).2.2.2.1) (to := 4064 + (trF E l Q p).length) (by omega) (by omega) (by omega) (by omega) (by rw [hwq]; exact hu)) ?_
        rintro r h0 ⟨rfl, B1, rfl, hs1, hw1⟩
        have w1 : wsd B μ B1 (va_up μ (4064 + (trF E l Q p).length) u) := ⟨hs1, hw1, fun a ha => va_up_ne _ _ (by omega)⟩
        have ht1 : trm (trF E l Q p) (va_up μ (4064 + (trF E l Q p).length) u) := fun k hk => (va_up_ne _ _ (by omega)).trans (ht k hk)
        iterate 4 refine go_s rfl rfl rfl trivial ?_
        have h0f : b01 (∃ j, j < 0 ∧ (trF E l Q p).getD j [] = u) = 0 := b01_f (fun ⟨j, j1, _⟩ => absurd j1 (Nat.not_lt_zero j))
        have go60 := l_cs60 (T := T) (D := D) (I := I) (S := S) (K := fun r h' => r = some (.int (nI (trF E l Q Q.1).length)) ∧ ∃ B' μ', h' = hM T I B' S D ∧ wsd B μ B' μ' ∧ trm (trF E l Q Q.1) μ') (l := l) (p := p) hw1 (by omega) ht1 (va_up_self _ _ _) (trF E l Q p).length 0 (by omega)
        rw [h0f] at go60
        refine go60 ?_
        have e1 : trF E l Q (p + 1) = ifp (u ∈ trF E l Q p) (trF E l Q p) (trF E l Q p ++ [u]) := by rw [trF, eW, hu, trA]
        iterate 3 refine go_s rfl rfl rfl trivial ?_
        refine go_if (fun hc2 => ?_) (fun hc2 => ?_)
        · rw [ifp_f (b01_eq0.mp hc2)] at e1
          iterate 3 refine go_s rfl rfl rfl trivial ?_
          refine next B1 _ _ _ _ w1 ?_ ?_
          · rw [e1]
            intro k hk
            rw [List.length_append, List.length_singleton] at hk
            rcases Nat.lt_or_ge k (trF E l Q p).length with h | h
            · rw [ht1 k h, List.getD_eq_getElem?_getD, List.getD_eq_getElem?_getD, List.getElem?_append_left h]
            · have e2 : k = (trF E l Q p).length := by omega
              subst e2
              rw [va_up_self, List.getD_eq_getElem?_getD, List.getElem?_append_right (Nat.le_refl _)]
              simp
          · rw [e1, List.length_append, nI_1]
            rfl
        · rw [ifp_t (Classical.not_not.mp fun q => hc2 (b01_f q))] at e1
          iterate 4 refine go_s rfl rfl rfl trivial ?_
          refine next B1 _ _ _ _ w1 (by rw [e1]; exact ht1) ?_
          rw [e1]
          exact nI_add _ 0
      · have hn : E l (Q.2.2.2 (Q.2.1 p).2.2.2.1) = none := Classical.not_not.mp fun q => hc1 (b01_f q)
        iterate 1 refine go_s rfl rfl rfl trivial ?_
        exact skip (eW.trans hn) _ _
theorem c_countStems {B : Nat → Nat → Int32} {μ : Nat → List Nat} {l : Nat} (hq : qS X E Q I B μ) (hf : qfit Q) (hl : l < 3) (h48 : Q.1 ≤ 48) :
    Do m_Mo_countStems [.ref 48, .int (nI l)] (hM T I B S D) (fun r h' => r = some (.int (nI (trF E l Q Q.1).length)) ∧ ∃ B' μ', h' = hM T I B' S D ∧ wsd B μ B' μ' ∧ trm (trF E l Q Q.1) μ') := by
  iterate 4 refine go_s rfl rfl rfl trivial ?_
  exact l_cs4 hf hl h48 Q.1 0 _ _ B μ hq (by omega) (fun k hk => absurd hk (Nat.not_lt_zero k))
theorem l_so19 {l t k : Nat} {f : Int32} {v : List Nat} {n s5 s6 : Option Value} (hl : l < 3) (hk : k < 48) : ∀ (d j : Nat) (B : Nat → Nat → Int32) (μ : Nat → List Nat), qS X E Q I B μ → xnt X = j + d → μ (4064 + k) = v →
    (∀ B' μ', wsc 6032 B μ B' μ' → Go m_Mo_scoreOf 71 [some (.ref 48), some (.int (nI t)), some (.int (nI l)), some (.int f), n, s5, s6, some (.int (nI k)), some (.int (nI (mnQ E X l f v))), some (.int (nI (xnt X)))] [] (hM T I B' S D) K) →
    Go m_Mo_scoreOf 19 [some (.ref 48), some (.int (nI t)), some (.int (nI l)), some (.int f), n, s5, s6, some (.int (nI k)), some (.int (nI (cnt (fun t => askedP X l t f ∧ 0 < tmQ E X l t 0 v) j))), some (.int (nI j))] [] (hM T I B S D) K := by
  intro d
  induction d with
  | zero =>
    intro j B μ hq hd hv kk
    obtain ⟨h1, h2, ⟨x1, x2, x3⟩, h4, h5, h6, h7⟩ := id hq
    have ej : j = xnt X := by omega
    subst ej
    iterate 3 refine go_s rfl rfl rfl trivial ?_
    rw [x1]
    iterate 1 refine go_s rfl rfl rfl trivial ?_
    refine go_if (fun _ => ?_) (fun hc => absurd (Int32.le_refl _) hc)
    exact kk B μ (wsc.rf h1)
  | succ d ih =>
    intro j B μ hq hd hv kk
    obtain ⟨h1, h2, h3, h4, h5, h6, h7⟩ := id hq
    have x1 := h3.1
    have x2 := h3.2.1
    have next : ∀ (B1 : Nat → Nat → Int32) (μ1 : Nat → List Nat) (g : Nat), wsc 6032 B μ B1 μ1 → cnt (fun t => askedP X l t f ∧ 0 < tmQ E X l t 0 v) j + g = cnt (fun t => askedP X l t f ∧ 0 < tmQ E X l t 0 v) (j + 1) → Go m_Mo_scoreOf 62 [some (.ref 48), some (.int (nI t)), some (.int (nI l)), some (.int f), n, s5, s6, some (.int (nI k)), some (.int (nI (cnt (fun t => askedP X l t f ∧ 0 < tmQ E X l t 0 v) j))), some (.int (nI j))] [.int (nI g), .int (nI (cnt (fun t => askedP X l t f ∧ 0 < tmQ E X l t 0 v) j))] (hM T I B1 S D) K := by
      intro B1 μ1 g hs1 hg
      iterate 1 refine go_s rfl rfl rfl trivial ?_
      rw [nI_add, hg]
      iterate 3 refine go_s rfl rfl rfl trivial ?_
      rw [nI_1]
      exact ih (j + 1) B1 μ1 (hq.keepc hs1 (by omega)) (by omega) ((hs1.2.2 _ (by omega)).trans hv) (fun B' μ' hs => kk B' μ' (hs1.tr hs))
    have zero : ∀ (B1 : Nat → Nat → Int32) (μ1 : Nat → List Nat), wsc 6032 B μ B1 μ1 → ¬ (askedP X l j f ∧ 0 < tmQ E X l j 0 v) → Go m_Mo_scoreOf 61 [some (.ref 48), some (.int (nI t)), some (.int (nI l)), some (.int f), n, s5, s6, some (.int (nI k)), some (.int (nI (cnt (fun t => askedP X l t f ∧ 0 < tmQ E X l t 0 v) j))), some (.int (nI j))] [.int (nI (cnt (fun t => askedP X l t f ∧ 0 < tmQ E X l t 0 v) j))] (hM T I B1 S D) K := by
      intro B1 μ1 hs1 hno
      iterate 1 refine go_s rfl rfl rfl trivial ?_
      exact next B1 μ1 0 hs1 (by rw [cnt_f hno]; rfl)
    iterate 3 refine go_s rfl rfl rfl trivial ?_
    rw [x1]
    iterate 1 refine go_s rfl rfl rfl trivial ?_
    refine go_if (fun hc => absurd hc (nI_ge (by omega) (by omega))) (fun _ => ?_)
    iterate 5 refine go_s rfl rfl rfl trivial ?_
    refine go_c rfl rfl rfl (c_isAsked h3 (t := j) (by omega) hl) ?_
    rintro r h0 ⟨rfl, rfl⟩
    iterate 1 refine go_s rfl rfl rfl trivial ?_
    refine go_if (fun hc => ?_) (fun hc => ?_)
    · exact zero B μ (wsc.rf h1) (fun q => b01_eq0.mp hc q.1)
    · have ha : askedP X l j f := Classical.not_not.mp fun q => hc (b01_f q)
      have c48 := (hq.txt (t := j) (by omega) ha.1).2.2.2.2.1
      have tl : tmQ E X l j 0 v ≤ 48 := Nat.le_trans (cnt_le _ _) c48
      iterate 5 refine go_s rfl rfl rfl trivial ?_
      rw [e4064]
      iterate 1 refine go_s rfl rfl rfl trivial ?_
      refine go_c rfl rfl rfl (c_tms hq (t := j) (by omega) ha.1 (a := 4064 + k) (f := 0) (by omega) (by omega) (Or.inl rfl) hv) ?_
      rintro r h0 ⟨rfl, B1, μ1, rfl, hs1, -⟩
      iterate 1 refine go_s rfl rfl rfl trivial ?_
      refine go_if (fun hc1 => ?_) (fun hc1 => ?_)
      · exact zero B1 μ1 hs1 (fun q => nI_nle q.2 (by omega) hc1)
      · have : 0 < tmQ E X l j 0 v := Nat.pos_of_ne_zero fun q => hc1 (by rw [q]; decide)
        iterate 2 refine go_s rfl rfl rfl trivial ?_
        exact next B1 μ1 1 hs1 (by rw [cnt_t ⟨ha, this⟩])
theorem nI_l0 {n : Nat} (h0 : 0 < n) (h : n < 2 ^ 31) : ¬ (nI n).toInt64 = 0 := by
  rw [nI_l h, show (0 : Int64) = lN 0 from rfl, lN_eq h (by omega)]
  omega
theorem l_so6 {l t : Nat} {f : Int32} {L : List (List Nat)} (hl : l < 3) (ht : t < xnt X) (htl : xlg X t = some l) (hL : L.length ≤ 48) : ∀ (d k : Nat) (X8 X9 : Option Value) (B : Nat → Nat → Int32) (μ : Nat → List Nat), qS X E Q I B μ → L.length = k + d → trm L μ →
    Go m_Mo_scoreOf 6 [some (.ref 48), some (.int (nI t)), some (.int (nI l)), some (.int f), some (.int (nI L.length)), some (.long (scF E X l f t L k)), none, some (.int (nI k)), X8, X9] [] (hM T I B S D) (fun r h' => r = some (.long (scF E X l f t L L.length)) ∧ ∃ B' μ', h' = hM T I B' S D ∧ wsc 6032 B μ B' μ') := by
  intro d
  induction d with
  | zero =>
    intro k X8 X9 B μ hq hd hm
    have ek : k = L.length := by omega
    subst ek
    iterate 3 refine go_s rfl rfl rfl trivial ?_
    refine go_if (fun _ => ?_) (fun hc => absurd (Int32.le_refl _) hc)
    iterate 1 refine go_s rfl rfl rfl trivial ?_
    exact go_r rfl rfl rfl trivial ⟨rfl, B, μ, rfl, wsc.rf hq.1⟩
  | succ d ih =>
    intro k X8 X9 B μ hq hd hm
    have x2 := hq.2.2.1.2.1
    have hv := hm k (by omega)
    iterate 3 refine go_s rfl rfl rfl trivial ?_
    refine go_if (fun hc => absurd hc (nI_ge (by omega) (by omega))) (fun _ => ?_)
    iterate 4 refine go_s rfl rfl rfl trivial ?_
    refine l_so19 (v := L.getD k []) hl (by omega) (xnt X) 0 B μ hq (by omega) hv (fun B1 μ1 hs1 => ?_)
    have hq1 := hq.keepc hs1 (by omega)
    have hv1 : μ1 (4064 + k) = L.getD k [] := (hs1.2.2 _ (by omega)).trans hv
    have hmn : mnQ E X l f (L.getD k []) ≤ 40 := Nat.le_trans (cnt_le _ _) x2
    have c48 := (hq.txt ht htl).2.2.2.2.1
    have next : ∀ (B2 : Nat → Nat → Int32) (μ2 : Nat → List Nat) (z : Int64) (Y8 Y9 : Option Value), wsc 6032 B μ B2 μ2 → z = scF E X l f t L (k + 1) → Go m_Mo_scoreOf 102 [some (.ref 48), some (.int (nI t)), some (.int (nI l)), some (.int f), some (.int (nI L.length)), some (.long z), none, some (.int (nI k)), Y8, Y9] [] (hM T I B2 S D) (fun r h' => r = some (.long (scF E X l f t L L.length)) ∧ ∃ B' μ', h' = hM T I B' S D ∧ wsc 6032 B μ B' μ') := by
      rintro B2 μ2 z Y8 Y9 hs2 rfl
      iterate 2 refine go_s rfl rfl rfl trivial ?_
      rw [nI_1]
      refine (ih (k + 1) Y8 Y9 B2 μ2 (hq.keepc hs2 (by omega)) (by omega) (fun j hj => (hs2.2.2 _ (by omega)).trans (hm j hj))).mono fun r h' h => ?_
      obtain ⟨g1, B3, μ3, g2, g3⟩ := h
      exact ⟨g1, B3, μ3, g2, hs2.tr g3⟩
    iterate 2 refine go_s rfl rfl rfl trivial ?_
    refine go_if (fun hc => ?_) (fun hc => ?_)
    · have hz : ¬ 0 < mnQ E X l f (L.getD k []) := fun q => nI_nle q (by omega) hc
      refine next B1 μ1 _ _ _ hs1 ?_
      rw [scF, shQ, if_neg hz, Int64.mul_zero, Int64.add_zero]
    · have hz : 0 < mnQ E X l f (L.getD k []) := Nat.pos_of_ne_zero fun q => hc (by rw [q]; decide)
      iterate 6 refine go_s rfl rfl rfl trivial ?_
      rw [e4064]
      iterate 1 refine go_s rfl rfl rfl trivial ?_
      refine go_c rfl rfl rfl (c_tms hq1 ht htl (a := 4064 + k) (f := 0) (by omega) (by omega) (Or.inl rfl) hv1) ?_
      rintro r h0 ⟨rfl, B2, μ2, rfl, hs2, -⟩
      iterate 4 refine go_s rfl rfl rfl trivial ?_
      refine go_s rfl rfl rfl ?_ ?_
      · exact nI_l0 hz (by omega)
      iterate 3 refine go_s rfl rfl rfl trivial ?_
      refine next B2 μ2 _ _ _ (hs1.tr hs2) ?_
      rw [scF, shQ, if_pos hz]
theorem c_scoreOf {l t : Nat} {f : Int32} {L : List (List Nat)} {B : Nat → Nat → Int32} {μ : Nat → List Nat} (hq : qS X E Q I B μ) (hl : l < 3) (ht : t < xnt X) (htl : xlg X t = some l) (hL : L.length ≤ 48) (hm : trm L μ) :
    Do m_Mo_scoreOf [.ref 48, .int (nI t), .int (nI l), .int f, .int (nI L.length)] (hM T I B S D) (fun r h' => r = some (.long (scF E X l f t L L.length)) ∧ ∃ B' μ', h' = hM T I B' S D ∧ wsc 6032 B μ B' μ') := by
  iterate 4 refine go_s rfl rfl rfl trivial ?_
  exact l_so6 hl ht htl hL L.length 0 _ _ B μ hq (by omega) hm
end MASK2
