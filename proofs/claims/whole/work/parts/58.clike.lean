/-! ===== the class's answers ===== -/
def cA (A : tx_A) (J : Nat → Int32) (N : Nat → Nat → Int32) (G : Nat → Nat → Int64) : Prop := J 16 = nI A.1 ∧ A.1 ≤ 40 ∧ ∀ i, i < A.1 → N 9 i = nI (A.2.1 i) ∧ G 15 i = A.2.2 i
theorem cA.keep {A : tx_A} {J J' : Nat → Int32} {N N' : Nat → Nat → Int32} {G G' : Nat → Nat → Int64} (h : cA A J N G) (h1 : J' 16 = J 16) (h2 : N' 9 = N 9) (h3 : G' 15 = G 15) : cA A J' N' G' := ⟨h1.trans h.1, h.2.1, fun i hi => by rw [h2, h3]; exact h.2.2 i hi⟩
section ANSW
variable {L : Nat} {xs : Nat → Int32} {J : Nat → Int32} {N : Nat → Nat → Int32} {G : Nat → Nat → Int64} {U : Int64} {p : Nat → Nat} {M : Nat → am_C} {D : List am_C} {A : tx_A}
theorem c_An_clear (J : Nat → Int32) (N : Nat → Nat → Int32) (G : Nat → Nat → Int64) : Do m_An_clear [.ref 39] (hC L xs J N G U p M D) (fun r h' => r = none ∧ h' = hC L xs (va_up J 16 0) N G U p M D) := by
  iterate 3 refine go_s rfl rfl rfl trivial ?_
  exact go_r rfl rfl rfl trivial ⟨rfl, rfl⟩
theorem c_An_count (h : cA A J N G) : Do m_An_count [.ref 39] (hC L xs J N G U p M D) (fun r h' => r = some (.int (nI A.1)) ∧ h' = hC L xs J N G U p M D) := by
  iterate 2 refine go_s rfl rfl rfl trivial ?_
  rw [h.1]
  exact go_r rfl rfl rfl trivial ⟨rfl, rfl⟩
theorem c_An_has (h : cA A J N G) (x : Int32) : Do m_An_has [.ref 39, .int x] (hC L xs J N G U p M D) (fun r h' => r = some (.int (b01 (0 ≤ x ∧ x < nI A.1))) ∧ h' = hC L xs J N G U p M D) := by
  have no : ¬ (0 ≤ x ∧ x < nI A.1) → Go m_An_has 25 [some (.ref 39), some (.int x)] [] (hC L xs J N G U p M D) (fun r h' => r = some (.int (b01 (0 ≤ x ∧ x < nI A.1))) ∧ h' = hC L xs J N G U p M D) := by
    intro q
    iterate 1 refine go_s rfl rfl rfl trivial ?_
    exact go_r rfl rfl rfl (Or.inl rfl) ⟨by rw [b01_f q], rfl⟩
  have h40 := h.2.1
  iterate 2 refine go_s rfl rfl rfl trivial ?_
  refine go_if (fun hc => no fun q => Int32.not_lt.mpr q.1 hc) (fun hc => ?_)
  iterate 3 refine go_s rfl rfl rfl trivial ?_
  rw [h.1]
  iterate 1 refine go_s rfl rfl rfl trivial ?_
  refine go_if (fun hc1 => no fun q => Int32.not_lt.mpr hc1 q.2) (fun hc1 => ?_)
  obtain ⟨t, ht, rfl⟩ := nI_of hc
  have hlt : t < A.1 := Nat.lt_of_not_le fun q => hc1 ((nI_leI (by omega) (by omega)).mpr q)
  iterate 5 refine go_s rfl rfl rfl trivial ?_
  refine go_if (fun hc2 => absurd hc2 (nI_ge (a := t) (b := 40) (by omega) (by omega))) (fun _ => ?_)
  iterate 2 refine go_s rfl rfl rfl trivial ?_
  exact go_r rfl rfl rfl (Or.inr rfl) ⟨by rw [b01_t ⟨Int32.not_lt.mp hc, Int32.not_le.mp hc1⟩], rfl⟩
theorem c_textAt (h : cA A J N G) (x : Int32) : Do m_An_textAt [.ref 39, .int x] (hC L xs J N G U p M D) (fun r h' => r = some (.int (ansS A.1 A.2.1 x)) ∧ h' = hC L xs J N G U p M D) := by
  have h40 := h.2.1
  iterate 2 refine go_s rfl rfl rfl trivial ?_
  refine go_c rfl rfl rfl (c_An_has h x) ?_
  rintro r h1 ⟨rfl, rfl⟩
  iterate 1 refine go_s rfl rfl rfl trivial ?_
  refine go_if (fun hc => ?_) (fun hc => ?_)
  · iterate 1 refine go_s rfl rfl rfl trivial ?_
    exact go_r rfl rfl rfl trivial ⟨by rw [ansS, if_neg (b01_eq0.mp hc)], rfl⟩
  · have hq : 0 ≤ x ∧ x < nI A.1 := Classical.not_not.mp fun q => hc (b01_f q)
    obtain ⟨t, ht, rfl⟩ := nI_of (Int32.not_lt.mpr hq.1)
    have hlt := (nI_ltI (b := A.1) ht (by omega)).mp hq.2
    have ct : (nI t).toNatClampNeg = t := nI_clamp ht
    iterate 3 refine go_s rfl rfl rfl trivial ?_
    refine go_s rfl rfl rfl ?_ ?_
    · exact vp_in_nI (by omega) (by omega)
    iterate 1 refine go_s rfl rfl rfl trivial ?_
    exact go_r rfl rfl rfl trivial ⟨by rw [ct, (h.2.2 t hlt).1, ansS, if_pos hq, ct], rfl⟩
theorem c_weightAt (h : cA A J N G) (x : Int32) : Do m_An_weightAt [.ref 39, .int x] (hC L xs J N G U p M D) (fun r h' => r = some (.long (scoS A.1 A.2.2 x)) ∧ h' = hC L xs J N G U p M D) := by
  have h40 := h.2.1
  iterate 2 refine go_s rfl rfl rfl trivial ?_
  refine go_c rfl rfl rfl (c_An_has h x) ?_
  rintro r h1 ⟨rfl, rfl⟩
  iterate 1 refine go_s rfl rfl rfl trivial ?_
  refine go_if (fun hc => ?_) (fun hc => ?_)
  · iterate 1 refine go_s rfl rfl rfl trivial ?_
    exact go_r rfl rfl rfl trivial ⟨by rw [scoS, if_neg (b01_eq0.mp hc)], rfl⟩
  · have hq : 0 ≤ x ∧ x < nI A.1 := Classical.not_not.mp fun q => hc (b01_f q)
    obtain ⟨t, ht, rfl⟩ := nI_of (Int32.not_lt.mpr hq.1)
    have hlt := (nI_ltI (b := A.1) ht (by omega)).mp hq.2
    have ct : (nI t).toNatClampNeg = t := nI_clamp ht
    iterate 3 refine go_s rfl rfl rfl trivial ?_
    refine go_s rfl rfl rfl ?_ ?_
    · exact vp_in_nI (by omega) (by omega)
    iterate 1 refine go_s rfl rfl rfl trivial ?_
    exact go_r rfl rfl rfl trivial ⟨by rw [ct, (h.2.2 t hlt).2, scoS, if_pos hq, ct], rfl⟩
theorem l_an19 {t : Int32} {s : Int64} {K : Option Value → List am_C → Prop} (hA : A.1 < 40) : ∀ (to : Nat) (N : Nat → Nat → Int32) (G : Nat → Nat → Int64), to ≤ A.1 → gap (fun i => nI (A.2.1 i)) (N 9) to A.1 → gap A.2.2 (G 15) to A.1 → psF (fun j => A.2.2 j < s) to = psF (fun j => A.2.2 j < s) A.1 →
    (∀ (N' : Nat → Nat → Int32) (G' : Nat → Nat → Int64), (∀ i, i ≠ 9 → N' i = N i) → (∀ i, i ≠ 15 → G' i = G i) → gap (fun i => nI (A.2.1 i)) (N' 9) (psF (fun j => A.2.2 j < s) A.1) A.1 → gap A.2.2 (G' 15) (psF (fun j => A.2.2 j < s) A.1) A.1 →
      Go m_An_add 76 [some (.ref 39), some (.int t), some (.long s), none, some (.int (nI (psF (fun j => A.2.2 j < s) A.1)))] [] (hC L xs J N' G' U p M D) K) →
    Go m_An_add 19 [some (.ref 39), some (.int t), some (.long s), none, some (.int (nI to))] [] (hC L xs J N G U p M D) K := by
  intro to
  induction to with
  | zero =>
    intro N G hto g1 g2 hp kk
    have e0 : psF (fun j => A.2.2 j < s) 0 = 0 := rfl
    rw [e0] at hp
    rw [← hp] at kk
    iterate 2 refine go_s rfl rfl rfl trivial ?_
    exact go_if (fun _ => kk N G (fun _ _ => rfl) (fun _ _ => rfl) g1 g2) (fun hc => absurd (by decide) hc)
  | succ n ih =>
    intro N G hto g1 g2 hp kk
    have cn : (nI n).toNatClampNeg = n := nI_clamp (by omega)
    have cn1 : (nI (n + 1)).toNatClampNeg = n + 1 := nI_clamp (by omega)
    have eS : G 15 n = A.2.2 n := g2.1 n (by omega)
    iterate 2 refine go_s rfl rfl rfl trivial ?_
    refine go_if (fun hc => absurd hc (nI_nle (by omega) (by omega))) (fun _ => ?_)
    iterate 5 refine go_s rfl rfl rfl trivial ?_
    rw [nI_pred]
    refine go_s rfl rfl rfl ?_ ?_
    · exact vp_in_nI (by omega) (by omega)
    simp only [cn]
    iterate 3 refine go_s rfl rfl rfl trivial ?_
    refine go_if (fun hc => ?_) (fun hc => ?_)
    · have hge : s ≤ A.2.2 n := by rw [← eS]; exact (lg_cmp_ge _ _).mp hc
      have hno : ¬ A.2.2 n < s := Int64.not_lt.mpr hge
      have ep : psF (fun j => A.2.2 j < s) (n + 1) = n + 1 := by rw [psF, ifp_f hno]
      rw [ep] at hp
      rw [← hp] at kk
      exact kk N G (fun _ _ => rfl) (fun _ _ => rfl) g1 g2
    · have hlt : A.2.2 n < s := by
        rw [← eS]
        exact Int64.not_le.mp fun q => hc ((lg_cmp_ge _ _).mpr q)
      have ep : psF (fun j => A.2.2 j < s) (n + 1) = psF (fun j => A.2.2 j < s) n := by rw [psF, ifp_t hlt]
      iterate 8 refine go_s rfl rfl rfl trivial ?_
      rw [nI_pred]
      refine go_s rfl rfl rfl ?_ ?_
      · exact vp_in_nI (by omega) (by omega)
      simp only [cn]
      refine go_s rfl rfl rfl ?_ ?_
      · exact vp_in_nI (by omega) (by omega)
      simp only [cn1]
      iterate 8 refine go_s rfl rfl rfl trivial ?_
      rw [nI_pred]
      refine go_s rfl rfl rfl ?_ ?_
      · exact vp_in_nI (by omega) (by omega)
      simp only [cn]
      refine go_s rfl rfl rfl ?_ ?_
      · exact vp_in_nI (by omega) (by omega)
      simp only [cn1]
      iterate 2 refine go_s rfl rfl rfl trivial ?_
      rw [pk_m1]
      refine ih (va_up N 9 (upd (N 9) (n + 1) (N 9 n))) (va_up G 15 (vp_updL (G 15) (n + 1) (G 15 n))) (by omega) ?_ ?_ (by rw [← ep]; exact hp) (fun N' G' hN hG hg1 hg2 => ?_)
      · refine g1.step ?_ (fun i hi => ?_)
        · rw [va_up_self, pk_us]
        · rw [va_up_self, pk_un hi]
      · refine g2.step ?_ (fun i hi => ?_)
        · rw [va_up_self, pk_uLs]
        · rw [va_up_self, pk_uLn hi]
      · exact kk N' G' (fun i hi => (hN i hi).trans (va_up_ne _ _ hi)) (fun i hi => (hG i hi).trans (va_up_ne _ _ hi)) hg1 hg2
theorem c_An_add (h : cA A J N G) (hA : A.1 < 40) (t : Nat) (s : Int64) : Do m_An_add [.ref 39, .int (nI t), .long s] (hC L xs J N G U p M D) (fun r h' => r = none ∧ ∃ J' N' G', h' = hC L xs J' N' G' U p M D ∧ cA (insA A t s) J' N' G' ∧ (∀ i, i ≠ 16 → J' i = J i) ∧ (∀ i, i ≠ 9 → N' i = N i) ∧ ∀ i, i ≠ 15 → G' i = G i) := by
  obtain ⟨z1, z2, z3⟩ := h
  iterate 2 refine go_s rfl rfl rfl trivial ?_
  rw [z1]
  iterate 3 refine go_s rfl rfl rfl trivial ?_
  iterate 1 refine go_s rfl rfl rfl trivial ?_
  refine go_if (fun _ => ?_) (fun hc => absurd (nI_lt (a := A.1) (b := 40) (by omega) (by omega)) hc)
  iterate 2 refine go_s rfl rfl rfl trivial ?_
  rw [z1]
  iterate 1 refine go_s rfl rfl rfl trivial ?_
  refine l_an19 (A := A) (s := s) hA A.1 N G (Nat.le_refl _) ⟨fun i hi => (z3 i hi).1, fun i h1 h2 => absurd h1 (by omega)⟩ ⟨fun i hi => (z3 i hi).2, fun i h1 h2 => absurd h1 (by omega)⟩ rfl (fun N3 G3 hN3 hG3 g1 g2 => ?_)
  have hp := psF_le (fun j => A.2.2 j < s) A.1
  generalize hpe : psF (fun j => A.2.2 j < s) A.1 = q at *
  have cq : (nI q).toNatClampNeg = q := nI_clamp (by omega)
  iterate 4 refine go_s rfl rfl rfl trivial ?_
  refine go_s rfl rfl rfl ?_ ?_
  · exact vp_in_nI (by omega) (by omega)
  simp only [cq]
  iterate 4 refine go_s rfl rfl rfl trivial ?_
  refine go_s rfl rfl rfl ?_ ?_
  · exact vp_in_nI (by omega) (by omega)
  simp only [cq]
  iterate 3 refine go_s rfl rfl rfl trivial ?_
  rw [z1]
  iterate 2 refine go_s rfl rfl rfl trivial ?_
  rw [nI_1]
  iterate 1 refine go_s rfl rfl rfl trivial ?_
  refine go_r rfl rfl rfl trivial ⟨rfl, va_up J 16 (nI (A.1 + 1)), va_up N3 9 (upd (N3 9) q (nI t)), va_up G3 15 (vp_updL (G3 15) q s), rfl, ⟨va_up_self _ _ _, by show A.1 + 1 ≤ 40; omega, fun i hi => ⟨?_, ?_⟩⟩, fun i hi => va_up_ne _ _ hi, fun i hi => (va_up_ne _ _ hi).trans (hN3 i hi), fun i hi => (va_up_ne _ _ hi).trans (hG3 i hi)⟩
  · have := g1.fill (g' := va_up N3 9 (upd (N3 9) q (nI t)) 9) (v := nI t) (by rw [va_up_self, pk_us]) (fun i hi => by rw [va_up_self, pk_un hi]) i hi
    rw [this]
    show inF (fun i => nI (A.2.1 i)) q (nI t) i = nI (inF A.2.1 (psF (fun j => A.2.2 j < s) A.1) t i)
    rw [hpe]
    simp only [inF]
    split
    · rfl
    · split <;> rfl
  · have := g2.fill (g' := va_up G3 15 (vp_updL (G3 15) q s) 15) (v := s) (by rw [va_up_self, pk_uLs]) (fun i hi => by rw [va_up_self, pk_uLn hi]) i hi
    rw [this]
    show inF A.2.2 q s i = inF A.2.2 (psF (fun j => A.2.2 j < s) A.1) s i
    rw [hpe]
end ANSW
/-! ===== the class's words that are like one ===== -/
def cL (A : tx_K) (J : Nat → Int32) (N : Nat → Nat → Int32) (G : Nat → Nat → Int64) : Prop := J 17 = nI A.1 ∧ A.1 ≤ 400 ∧ ∀ i, i < A.1 → G 16 i = lN (enc (A.2.1 i)) ∧ wok (A.2.1 i) ∧ N 10 i = nI (A.2.2 i) ∧ A.2.2 i ≤ 24
/-- a word's digits in a row -/
def spr (w : List Nat) (f : Nat → Int32) : Prop := ∀ i, i < 12 → f i = nI (dgt w i)
section LIKES
variable {L : Nat} {xs : Nat → Int32} {J : Nat → Int32} {N : Nat → Nat → Int32} {G : Nat → Nat → Int64} {U : Int64} {p : Nat → Nat} {M : Nat → am_C} {D : List am_C} {A : tx_K}
theorem set_set (h : List am_C) (a : Nat) (c c' : am_C) : am_set (am_set h a c) a c' = am_set h a c' := by
  rw [am_set_eq, am_set_eq, am_set_eq, List.set_set]
theorem c_spread {h : List am_C} {a : Nat} {f : Nat → Int32} {w : List Nat} (hw : wok0 w) (h6 : 6 ≤ a) (hr : am_get h a = some (.inl (0, (12, .inl f)))) : Do m_Wo_spread [.long (lN (enc w)), .ref a] h (fun r h' => r = some (.int (nI w.length)) ∧ ∃ g, h' = am_set h a (.inl (0, (12, .inl g))) ∧ spr w g) := by
  have h12 := hw.1
  have key : ∀ (k : Nat) (h1 : List am_C) (f1 : Nat → Int32) (X7 : Option Value), k ≤ 12 → am_get h1 a = some (.inl (0, (12, .inl f1))) → (∀ c, am_set h1 a c = am_set h a c) → h1 = am_set h a (.inl (0, (12, .inl f1))) → (∀ i, k ≤ i → i < 12 → f1 i = nI (dgt w i)) → Go m_Wo_spread 9 [some (.long (lN (enc w))), none, some (.ref a), some (.long (lN (pre w k))), none, some (.int (nI (w.length - k))), some (.int (nI k + -1)), X7] [] h1 (fun r h' => r = some (.int (nI w.length)) ∧ ∃ g, h' = am_set h a (.inl (0, (12, .inl g))) ∧ spr w g) := by
    intro k
    induction k with
    | zero =>
      intro h1 f1 X7 hk hr1 hs1 he hf
      iterate 2 refine go_s rfl rfl rfl trivial ?_
      refine go_if (fun _ => ?_) (fun hc => absurd (by decide) hc)
      iterate 1 refine go_s rfl rfl rfl trivial ?_
      exact go_r rfl rfl rfl trivial ⟨rfl, f1, he, fun i hi => hf i (Nat.zero_le _) hi⟩
    | succ k ih =>
      intro h1 f1 X7 hk hr1 hs1 he hf
      have ck : (nI k).toNatClampNeg = k := nI_clamp (by omega)
      have hd := dgt_lt w k
      rw [pk_m1]
      iterate 2 refine go_s rfl rfl rfl trivial ?_
      refine go_if (fun hc => absurd hc (nI_pos (by omega))) (fun _ => ?_)
      iterate 2 refine go_s rfl rfl rfl trivial ?_
      refine go_s rfl rfl rfl ?_ ?_
      · exact n37
      rw [l37, pk_lRem (pre63 w hk) (by decide) (by decide), pre_mod]
      iterate 1 refine go_s rfl rfl rfl trivial ?_
      rw [lN_i]
      iterate 3 refine go_s rfl rfl rfl trivial ?_
      refine go_s rfl rfl (s_ar hr1 (by decide)) trivial ?_
      iterate 1 refine go_s rfl rfl rfl trivial ?_
      refine go_if (fun hc => absurd hc (nI_ge (a := k) (b := 12) (by omega) (by omega))) (fun _ => ?_)
      iterate 3 refine go_s rfl rfl rfl trivial ?_
      refine go_s rfl rfl (s_is hr1 h6) (vp_in_nI (by omega) (by omega)) ?_
      rw [ck]
      have nx : ∀ g : Nat, w.length - (k + 1) + g = w.length - k → Go m_Wo_spread 47 [some (.long (lN (enc w))), none, some (.ref a), some (.long (lN (pre w (k + 1)))), none, some (.int (nI (w.length - (k + 1)))), some (.int (nI k)), some (.int (nI (dgt w k)))] [.int (nI g), .int (nI (w.length - (k + 1)))] (am_set h1 a (.inl (0, (12, .inl (upd f1 k (nI (dgt w k))))))) (fun r h' => r = some (.int (nI w.length)) ∧ ∃ g, h' = am_set h a (.inl (0, (12, .inl g))) ∧ spr w g) := by
        intro g hg
        iterate 1 refine go_s rfl rfl rfl trivial ?_
        rw [nI_add, hg]
        iterate 3 refine go_s rfl rfl rfl trivial ?_
        refine go_s rfl rfl rfl ?_ ?_
        · exact n37
        rw [l37, pk_lDiv (pre63 w hk) (by decide) (by decide), pre_div]
        iterate 3 refine go_s rfl rfl rfl trivial ?_
        refine ih (am_set h1 a (.inl (0, (12, .inl (upd f1 k (nI (dgt w k))))))) (upd f1 k (nI (dgt w k))) (some (.int (nI (dgt w k)))) (by omega) (get_set_eq hr1 _) (fun c => by rw [set_set]; exact hs1 c) (hs1 _) (fun i hi1 hi2 => ?_)
        by_cases e : i = k
        · subst e; rw [pk_us]
        · rw [pk_un e]; exact hf i (by omega) hi2
      iterate 3 refine go_s rfl rfl rfl trivial ?_
      refine go_if (fun hc => ?_) (fun hc => ?_)
      · have h0 : dgt w k = 0 := nI_inj (by omega) (by omega) hc
        have := (dgt_z hw k).mp h0
        iterate 1 refine go_s rfl rfl rfl trivial ?_
        exact nx 0 (by omega)
      · have h0 : ¬ w.length ≤ k := fun q => hc (by rw [(dgt_z hw k).mpr q]; rfl)
        iterate 2 refine go_s rfl rfl rfl trivial ?_
        exact nx 1 (by omega)
  have he : h = am_set h a (.inl (0, (12, .inl f))) := by
    rw [am_set_eq]
    have := am_get_lt hr
    refine List.ext_getElem? fun i => ?_
    by_cases e : i = a
    · subst e
      rw [List.getElem?_set_self this, ← am_get_eq]
      exact hr
    · rw [List.getElem?_set_ne (fun q => e q.symm)]
  iterate 6 refine go_s rfl rfl rfl trivial ?_
  have := key 12 h f none (Nat.le_refl _) hr (fun _ => rfl) he (fun i h1 h2 => by omega)
  rw [show w.length - 12 = 0 by omega] at this
  exact this
theorem c_holds (h : cL A J N G) {w : List Nat} (hw : wok0 w) : Do m_Li_holds [.ref 42, .long (lN (enc w))] (hC L xs J N G U p M D) (fun r h' => r = some (.int (b01 (∃ j, j < A.1 ∧ A.2.1 j = w))) ∧ h' = hC L xs J N G U p M D) := by
  obtain ⟨h1, h2, h3⟩ := h
  have key : ∀ (d k : Nat), A.1 = k + d → (¬ ∃ j, j < k ∧ A.2.1 j = w) → Go m_Li_holds 2 [some (.ref 42), some (.long (lN (enc w))), none, some (.int (nI k))] [] (hC L xs J N G U p M D) (fun r h' => r = some (.int (b01 (∃ j, j < A.1 ∧ A.2.1 j = w))) ∧ h' = hC L xs J N G U p M D) := by
    intro d
    induction d with
    | zero =>
      intro k hk hno
      have ek : k = A.1 := by omega
      subst ek
      iterate 3 refine go_s rfl rfl rfl trivial ?_
      rw [h1]
      iterate 1 refine go_s rfl rfl rfl trivial ?_
      refine go_if (fun _ => ?_) (fun hc => absurd (Int32.le_refl _) hc)
      iterate 1 refine go_s rfl rfl rfl trivial ?_
      exact go_r rfl rfl rfl (Or.inl rfl) ⟨by rw [b01_f hno], rfl⟩
    | succ d ih =>
      intro k hk hno
      have ck : (nI k).toNatClampNeg = k := nI_clamp (by omega)
      obtain ⟨y1, y2, y3⟩ := h3 k (by omega)
      iterate 3 refine go_s rfl rfl rfl trivial ?_
      rw [h1]
      iterate 1 refine go_s rfl rfl rfl trivial ?_
      refine go_if (fun hc => absurd hc (nI_ge (by omega) (by omega))) (fun _ => ?_)
      iterate 5 refine go_s rfl rfl rfl trivial ?_
      refine go_if (fun hc => absurd hc (nI_ge (a := k) (b := 400) (by omega) (by omega))) (fun _ => ?_)
      iterate 3 refine go_s rfl rfl rfl trivial ?_
      refine go_s rfl rfl rfl ?_ ?_
      · exact vp_in_nI (by omega) (by omega)
      rw [ck, y1]
      iterate 3 refine go_s rfl rfl rfl trivial ?_
      refine go_if (fun hc => ?_) (fun hc => ?_)
      · iterate 2 refine go_s rfl rfl rfl trivial ?_
        rw [nI_1]
        refine ih (k + 1) (by omega) ?_
        rintro ⟨j, j1, j2⟩
        rcases Nat.lt_or_ge j k with g | g
        · exact hno ⟨j, g, j2⟩
        · rw [show j = k by omega] at j2
          exact hc ((lg_cmp_eq _ _).mpr (by rw [j2]))
      · have he := (encI y2.o hw).mp ((lg_cmp_eq _ _).mp (Classical.not_not.mp hc))
        iterate 1 refine go_s rfl rfl rfl trivial ?_
        exact go_r rfl rfl rfl (Or.inr rfl) ⟨by rw [b01_t ⟨k, by omega, he⟩], rfl⟩
  iterate 2 refine go_s rfl rfl rfl trivial ?_
  exact key A.1 0 (by omega) (fun ⟨j, j1, _⟩ => absurd j1 (Nat.not_lt_zero j))
end LIKES
