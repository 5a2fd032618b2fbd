/-! ===== the class's likes ===== -/
section LIKES2
variable {L : Nat} {xs : Nat → Int32} {J : Nat → Int32} {N : Nat → Nat → Int32} {G : Nat → Nat → Int64} {U : Int64} {p : Nat → Nat} {M : Nat → am_C} {D : List am_C} {A : tx_K}
theorem c_standsBefore {w v : List Nat} {d i x : Nat} (hw : wok0 w) (hv : wok0 v) (hd : d ≤ 24) (hx : x ≤ 24) (hi : i < 400) (hG : G 16 i = lN (enc v)) (hN : N 10 i = nI x) : Do m_Li_standsBefore [.ref 42, .long (lN (enc w)), .int (nI d), .int (nI i)] (hC L xs J N G U p M D) (fun r h' => r = some (.int (b01 (d < x ∨ (x = d ∧ ltW w v)))) ∧ h' = hC L xs J N G U p M D) := by
  have ci : (nI i).toNatClampNeg = i := nI_clamp (by omega)
  have no : ¬ (d < x ∨ (x = d ∧ ltW w v)) → Go m_Li_standsBefore 55 [some (.ref 42), some (.long (lN (enc w))), none, some (.int (nI d)), some (.int (nI i))] [] (hC L xs J N G U p M D) (fun r h' => r = some (.int (b01 (d < x ∨ (x = d ∧ ltW w v)))) ∧ h' = hC L xs J N G U p M D) := by
    intro q
    iterate 1 refine go_s rfl rfl rfl trivial ?_
    exact go_r rfl rfl rfl (Or.inl rfl) ⟨by rw [b01_f q], rfl⟩
  have yes : (d < x ∨ (x = d ∧ ltW w v)) → Go m_Li_standsBefore 51 [some (.ref 42), some (.long (lN (enc w))), none, some (.int (nI d)), some (.int (nI i))] [] (hC L xs J N G U p M D) (fun r h' => r = some (.int (b01 (d < x ∨ (x = d ∧ ltW w v)))) ∧ h' = hC L xs J N G U p M D) := by
    intro q
    iterate 2 refine go_s rfl rfl rfl trivial ?_
    exact go_r rfl rfl rfl (Or.inr rfl) ⟨by rw [b01_t q], rfl⟩
  iterate 2 refine go_s rfl rfl rfl trivial ?_
  refine go_if (fun hc => absurd hc (nI_pos (by omega))) (fun _ => ?_)
  iterate 5 refine go_s rfl rfl rfl trivial ?_
  refine go_if (fun _ => ?_) (fun hc => absurd (nI_lt (a := i) (b := 400) (by omega) (by omega)) hc)
  iterate 4 refine go_s rfl rfl rfl trivial ?_
  refine go_s rfl rfl rfl ?_ ?_
  · exact vp_in_nI (by omega) (by omega)
  simp only [ci, hN]
  iterate 1 refine go_s rfl rfl rfl trivial ?_
  refine go_if (fun hc => yes (Or.inl ((nI_ltI (by omega) (by omega)).mp hc))) (fun hc => ?_)
  have hge : ¬ d < x := fun q => hc ((nI_ltI (by omega) (by omega)).mpr q)
  iterate 4 refine go_s rfl rfl rfl trivial ?_
  refine go_s rfl rfl rfl ?_ ?_
  · exact vp_in_nI (by omega) (by omega)
  simp only [ci, hN]
  iterate 1 refine go_s rfl rfl rfl trivial ?_
  refine go_if (fun hc1 => no (fun q => q.elim hge (fun q => hc1 (by rw [q.1])))) (fun hc1 => ?_)
  have he : d = x := nI_inj (by omega) (by omega) (Classical.not_not.mp hc1)
  iterate 4 refine go_s rfl rfl rfl trivial ?_
  refine go_s rfl rfl rfl ?_ ?_
  · exact vp_in_nI (by omega) (by omega)
  rw [ci, hG]
  iterate 2 refine go_s rfl rfl rfl trivial ?_
  have key : enc v ≤ enc w ↔ ¬ ltW w v := by
    rw [← enc_lt hw hv]
    omega
  refine go_if (fun hc2 => no (fun q => q.elim hge (fun q => ?_))) (fun hc2 => yes (Or.inr ⟨he.symm, ?_⟩))
  · exact key.mp ((pk_lLE (enc63 v) (enc63 w)).mp ((lg_cmp_ge _ _).mp hc2)) q.2
  · exact Classical.not_not.mp fun q => hc2 ((lg_cmp_ge _ _).mpr ((pk_lLE (enc63 v) (enc63 w)).mpr (key.mpr q)))
/-- the rows while an insertion goes on -/
theorem l_li19 {w : List Nat} {d : Nat} {K : Option Value → List am_C → Prop} (hw : wok w) (hd : d ≤ 24) (hA : A.1 < 400) (hok : ∀ i, i < A.1 → wok (A.2.1 i) ∧ A.2.2 i ≤ 24) : ∀ (to : Nat) (N : Nat → Nat → Int32) (G : Nat → Nat → Int64), to ≤ A.1 → gap (fun i => nI (A.2.2 i)) (N 10) to A.1 → gap (fun i => lN (enc (A.2.1 i))) (G 16) to A.1 → psF (lkB d w A.2.1 A.2.2) to = psF (lkB d w A.2.1 A.2.2) A.1 →
    (∀ (N' : Nat → Nat → Int32) (G' : Nat → Nat → Int64), (∀ i, i ≠ 10 → N' i = N i) → (∀ i, i ≠ 16 → G' i = G i) → gap (fun i => nI (A.2.2 i)) (N' 10) (psF (lkB d w A.2.1 A.2.2) A.1) A.1 → gap (fun i => lN (enc (A.2.1 i))) (G' 16) (psF (lkB d w A.2.1 A.2.2) A.1) A.1 →
      Go m_Li_insert 75 [some (.ref 42), some (.long (lN (enc w))), none, some (.int (nI d)), some (.int (nI (psF (lkB d w A.2.1 A.2.2) A.1)))] [] (hC L xs J N' G' U p M D) K) →
    Go m_Li_insert 19 [some (.ref 42), some (.long (lN (enc w))), none, some (.int (nI d)), some (.int (nI to))] [] (hC L xs J N G U p M D) K := by
  intro to
  induction to with
  | zero =>
    intro N G hto g1 g2 hp kk
    have e0 : psF (lkB d w A.2.1 A.2.2) 0 = 0 := rfl
    rw [e0] at hp
    rw [← hp] at kk
    iterate 2 refine go_s rfl rfl rfl trivial ?_
    exact go_if (fun _ => kk N G (fun _ _ => rfl) (fun _ _ => rfl) g1 g2) (fun hc => absurd (by decide) hc)
  | succ n ih =>
    intro N G hto g1 g2 hp kk
    have cn : (nI n).toNatClampNeg = n := nI_clamp (by omega)
    have cn1 : (nI (n + 1)).toNatClampNeg = n + 1 := nI_clamp (by omega)
    obtain ⟨o1, o2⟩ := hok n (by omega)
    have eN : N 10 n = nI (A.2.2 n) := g1.1 n (by omega)
    have eG : G 16 n = lN (enc (A.2.1 n)) := g2.1 n (by omega)
    iterate 2 refine go_s rfl rfl rfl trivial ?_
    refine go_if (fun hc => absurd hc (nI_nle (by omega) (by omega))) (fun _ => ?_)
    iterate 6 refine go_s rfl rfl rfl trivial ?_
    rw [nI_pred]
    refine go_c rfl rfl rfl (c_standsBefore (i := n) hw.o o1.o hd o2 (by omega) eG eN) ?_
    rintro r h0 ⟨rfl, rfl⟩
    iterate 1 refine go_s rfl rfl rfl trivial ?_
    refine go_if (fun hc => ?_) (fun hc => ?_)
    · have hno : ¬ lkB d w A.2.1 A.2.2 n := b01_eq0.mp hc
      have ep : psF (lkB d w A.2.1 A.2.2) (n + 1) = n + 1 := by rw [psF, ifp_f hno]
      rw [ep] at hp
      rw [← hp] at kk
      exact kk N G (fun _ _ => rfl) (fun _ _ => rfl) g1 g2
    · have hyes : lkB d w A.2.1 A.2.2 n := Classical.not_not.mp fun q => hc (b01_f q)
      have ep : psF (lkB d w A.2.1 A.2.2) (n + 1) = psF (lkB d w A.2.1 A.2.2) n := by rw [psF, ifp_t hyes]
      iterate 8 refine go_s rfl rfl rfl trivial ?_
      rw [nI_pred]
      refine go_s rfl rfl rfl ?_ ?_
      · exact vp_in_nI (by omega) (by omega)
      simp only [cn]
      refine go_s rfl rfl rfl ?_ ?_
      · exact vp_in_nI (by omega) (by omega)
      simp only [cn1]
      iterate 8 refine go_s rfl rfl rfl trivial ?_
      rw [nI_pred]
      refine go_s rfl rfl rfl ?_ ?_
      · exact vp_in_nI (by omega) (by omega)
      simp only [cn]
      refine go_s rfl rfl rfl ?_ ?_
      · exact vp_in_nI (by omega) (by omega)
      simp only [cn1]
      iterate 2 refine go_s rfl rfl rfl trivial ?_
      rw [pk_m1]
      refine ih (va_up N 10 (upd (N 10) (n + 1) (N 10 n))) (va_up G 16 (vp_updL (G 16) (n + 1) (G 16 n))) (by omega) ?_ ?_ (by rw [← ep]; exact hp) (fun N' G' hN hG hg1 hg2 => ?_)
      · refine g1.step ?_ (fun i hi => ?_)
        · rw [va_up_self, pk_us]
        · rw [va_up_self, pk_un hi]
      · refine g2.step ?_ (fun i hi => ?_)
        · rw [va_up_self, pk_uLs]
        · rw [va_up_self, pk_uLn hi]
      · exact kk N' G' (fun i hi => (hN i hi).trans (va_up_ne _ _ hi)) (fun i hi => (hG i hi).trans (va_up_ne _ _ hi)) hg1 hg2
theorem c_insert (h : cL A J N G) {w : List Nat} {d : Nat} (hw : wok w) (hd : d ≤ 24) (hA : A.1 < 400) : Do m_Li_insert [.ref 42, .long (lN (enc w)), .int (nI d)] (hC L xs J N G U p M D) (fun r h' => r = none ∧ ∃ J' N' G', h' = hC L xs J' N' G' U p M D ∧ cL (insK A w d) J' N' G' ∧ (∀ i, i ≠ 17 → J' i = J i) ∧ (∀ i, i ≠ 10 → N' i = N i) ∧ ∀ i, i ≠ 16 → G' i = G i) := by
  obtain ⟨z1, z2, z3⟩ := h
  iterate 2 refine go_s rfl rfl rfl trivial ?_
  rw [z1]
  iterate 4 refine go_s rfl rfl rfl trivial ?_
  refine go_if (fun _ => ?_) (fun hc => absurd (nI_lt (a := A.1) (b := 400) (by omega) (by omega)) hc)
  iterate 2 refine go_s rfl rfl rfl trivial ?_
  rw [z1]
  iterate 1 refine go_s rfl rfl rfl trivial ?_
  refine l_li19 (A := A) hw hd hA (fun i hi => ⟨(z3 i hi).2.1, (z3 i hi).2.2.2⟩) A.1 N G (Nat.le_refl _) ⟨fun i hi => (z3 i hi).2.2.1, fun i h1 h2 => absurd h1 (by omega)⟩ ⟨fun i hi => (z3 i hi).1, fun i h1 h2 => absurd h1 (by omega)⟩ rfl (fun N3 G3 hN3 hG3 g1 g2 => ?_)
  have hp := psF_le (lkB d w A.2.1 A.2.2) A.1
  generalize hpe : psF (lkB d w A.2.1 A.2.2) A.1 = q at *
  have cq : (nI q).toNatClampNeg = q := nI_clamp (by omega)
  iterate 4 refine go_s rfl rfl rfl trivial ?_
  refine go_s rfl rfl rfl ?_ ?_
  · exact vp_in_nI (by omega) (by omega)
  simp only [cq]
  iterate 4 refine go_s rfl rfl rfl trivial ?_
  refine go_s rfl rfl rfl ?_ ?_
  · exact vp_in_nI (by omega) (by omega)
  simp only [cq]
  iterate 3 refine go_s rfl rfl rfl trivial ?_
  rw [z1]
  iterate 2 refine go_s rfl rfl rfl trivial ?_
  rw [nI_1]
  iterate 1 refine go_s rfl rfl rfl trivial ?_
  refine go_r rfl rfl rfl trivial ⟨rfl, va_up J 17 (nI (A.1 + 1)), va_up N3 10 (upd (N3 10) q (nI d)), va_up G3 16 (vp_updL (G3 16) q (lN (enc w))), rfl, ⟨va_up_self _ _ _, by show A.1 + 1 ≤ 400; omega, fun i hi => ?_⟩, fun i hi => va_up_ne _ _ hi, fun i hi => (va_up_ne _ _ hi).trans (hN3 i hi), fun i hi => (va_up_ne _ _ hi).trans (hG3 i hi)⟩
  have hi' : i < A.1 + 1 := hi
  have f1 := g1.fill (g' := va_up N3 10 (upd (N3 10) q (nI d)) 10) (v := nI d) (by rw [va_up_self, pk_us]) (fun i hi => by rw [va_up_self, pk_un hi]) i hi
  have f2 := g2.fill (g' := va_up G3 16 (vp_updL (G3 16) q (lN (enc w))) 16) (v := lN (enc w)) (by rw [va_up_self, pk_uLs]) (fun i hi => by rw [va_up_self, pk_uLn hi]) i hi
  rw [f1, f2]
  show inF (fun i => lN (enc (A.2.1 i))) q (lN (enc w)) i = lN (enc (inF A.2.1 (psF (lkB d w A.2.1 A.2.2) A.1) w i)) ∧ wok (inF A.2.1 (psF (lkB d w A.2.1 A.2.2) A.1) w i) ∧ inF (fun i => nI (A.2.2 i)) q (nI d) i = nI (inF A.2.2 (psF (lkB d w A.2.1 A.2.2) A.1) d i) ∧ inF A.2.2 (psF (lkB d w A.2.1 A.2.2) A.1) d i ≤ 24
  rw [hpe]
  simp only [inF]
  split
  · have := z3 i (by omega)
    exact ⟨rfl, this.2.1, rfl, this.2.2.2⟩
  · split
    · exact ⟨rfl, hw, rfl, hd⟩
    · have := z3 (i - 1) (by omega)
      exact ⟨rfl, this.2.1, rfl, this.2.2.2⟩
theorem minI' {a b c : Nat} (ha : a < 2 ^ 31) (hb : b < 2 ^ 31) (hc : c = min b a) : (if nI a < nI b then nI a else nI b) = nI c := by rw [hc]; exact minI ha hb
theorem c_changesNeeded {h w : List Nat} (hh : wok0 h) (hw : wok0 w) (hJ : J 18 = nI h.length) (h11 : spr h (N 11)) (h12 : spr w (N 12)) : Do m_Li_changesNeeded [.ref 42, .int (nI w.length)] (hC L xs J N G U p M D) (fun r h' => r = some (.int (nI (lev h w h.length w.length))) ∧ ∃ N', h' = hC L xs J N' G U p M D ∧ ∀ i, i ≠ 13 → N' i = N i) := by
  have hl := hh.1
  have wl12 := hw.1
  have cw : (nI w.length).toNatClampNeg = w.length := nI_clamp (by omega)
  have l32 : ∀ (d i : Nat) (X4 X5 X6 : Option Value) (N1 : Nat → Nat → Int32), h.length = i + d → (∀ j, j ≤ w.length → N1 13 j = nI (lev h w i j)) → (∀ i, i ≠ 13 → N1 i = N i) → Go m_Li_changesNeeded 32 [some (.ref 42), some (.int (nI w.length)), some (.int (nI w.length)), some (.int (nI i)), X4, X5, X6] [] (hC L xs J N1 G U p M D) (fun r h' => r = some (.int (nI (lev h w h.length w.length))) ∧ ∃ N', h' = hC L xs J N' G U p M D ∧ ∀ i, i ≠ 13 → N' i = N i) := by
    intro d
    induction d with
    | zero =>
      intro i X4 X5 X6 N1 hi hT hN
      have ei : i = h.length := by omega
      subst ei
      iterate 3 refine go_s rfl rfl rfl trivial ?_
      rw [hJ]
      iterate 1 refine go_s rfl rfl rfl trivial ?_
      refine go_if (fun _ => ?_) (fun hc => absurd (Int32.le_refl _) hc)
      iterate 2 refine go_s rfl rfl rfl trivial ?_
      refine go_if (fun hc => absurd hc (nI_pos (by omega))) (fun _ => ?_)
      iterate 3 refine go_s rfl rfl rfl trivial ?_
      refine go_s rfl rfl rfl ?_ ?_
      · exact vp_in_nI (by omega) (by omega)
      iterate 1 refine go_s rfl rfl rfl trivial ?_
      exact go_r rfl rfl rfl trivial ⟨by rw [cw, hT _ (Nat.le_refl _)], N1, rfl, hN⟩
    | succ d ih =>
      intro i X4 X5 X6 N1 hi hT hN
      have ci : (nI i).toNatClampNeg = i := nI_clamp (by omega)
      iterate 3 refine go_s rfl rfl rfl trivial ?_
      rw [hJ]
      iterate 1 refine go_s rfl rfl rfl trivial ?_
      refine go_if (fun hc => absurd hc (nI_ge (by omega) (by omega))) (fun _ => ?_)
      iterate 5 refine go_s rfl rfl rfl trivial ?_
      refine go_if (fun hc => absurd hc (nI_ge (a := i) (b := 12) (by omega) (by omega))) (fun _ => ?_)
      iterate 3 refine go_s rfl rfl rfl trivial ?_
      refine go_s rfl rfl rfl ?_ ?_
      · exact vp_in_nI (n := 0) (by omega) (by omega)
      change Go m_Li_changesNeeded 55 _ [.int (N1 13 0)] _ _
      rw [hT 0 (Nat.zero_le _)]
      iterate 7 refine go_s rfl rfl rfl trivial ?_
      rw [nI_1]
      refine go_s rfl rfl rfl ?_ ?_
      · exact vp_in_nI (n := 0) (by omega) (by omega)
      iterate 2 refine go_s rfl rfl rfl trivial ?_
      have inner : ∀ (e j : Nat) (X6 : Option Value) (N2 : Nat → Nat → Int32), w.length = j + e → (∀ j', j' ≤ j → N2 13 j' = nI (lev h w (i + 1) j')) → (∀ j', j < j' → j' ≤ w.length → N2 13 j' = nI (lev h w i j')) → (∀ i, i ≠ 13 → N2 i = N i) → Go m_Li_changesNeeded 69 [some (.ref 42), some (.int (nI w.length)), some (.int (nI w.length)), some (.int (nI i)), some (.int (nI (lev h w i j))), some (.int (nI (j + 1))), X6] [] (hC L xs J N2 G U p M D) (fun r h' => r = some (.int (nI (lev h w h.length w.length))) ∧ ∃ N', h' = hC L xs J N' G U p M D ∧ ∀ i, i ≠ 13 → N' i = N i) := by
        intro e
        induction e with
        | zero =>
          intro j X6 N2 hj t1 t2 hN2
          have ej : j = w.length := by omega
          subst ej
          iterate 3 refine go_s rfl rfl rfl trivial ?_
          refine go_if (fun _ => ?_) (fun hc => absurd (nI_lt (by omega) (by omega)) hc)
          iterate 2 refine go_s rfl rfl rfl trivial ?_
          rw [nI_1]
          exact ih (i + 1) _ _ _ N2 (by omega) t1 hN2
        | succ e ih2 =>
          intro j X6 N2 hj t1 t2 hN2
          have cj : (nI j).toNatClampNeg = j := nI_clamp (by omega)
          have cj1 : (nI (j + 1)).toNatClampNeg = j + 1 := nI_clamp (by omega)
          have m1 : N2 11 i = nI (dgt h i) := by rw [hN2 11 (by decide)]; exact h11 i (by omega)
          have m2 : N2 12 j = nI (dgt w j) := by rw [hN2 12 (by decide)]; exact h12 j (by omega)
          have d1 := dgt_lt h i
          have d2 := dgt_lt w j
          have b1 := lev_le h w i j
          have b2 := lev_le h w i (j + 1)
          have b3 := lev_le h w (i + 1) j
          have hss := lev_ss h w i j
          have hde : dgt h i = dgt w j ↔ h.getD i 0 = w.getD j 0 := by
            constructor
            · intro q
              rw [dgt, dgt, if_pos (by omega), if_pos (by omega)] at q
              exact dig_inj (hh.at (by omega)) (hw.at (by omega)) q
            · intro q
              rw [dgt, dgt, if_pos (by omega), if_pos (by omega), q]
          iterate 3 refine go_s rfl rfl rfl trivial ?_
          refine go_if (fun hc => absurd hc (nI_nlt (by omega) (by omega))) (fun _ => ?_)
          iterate 4 refine go_s rfl rfl rfl trivial ?_
          refine go_s rfl rfl rfl ?_ ?_
          · exact vp_in_nI (by omega) (by omega)
          simp only [ci, m1]
          iterate 5 refine go_s rfl rfl rfl trivial ?_
          rw [nI_pred]
          refine go_s rfl rfl rfl ?_ ?_
          · exact vp_in_nI (by omega) (by omega)
          simp only [cj, m2]
          have nx : ∀ g : Nat, g = (if h.getD i 0 = w.getD j 0 then 0 else 1) → Go m_Li_changesNeeded 100 [some (.ref 42), some (.int (nI w.length)), some (.int (nI w.length)), some (.int (nI i)), some (.int (nI (lev h w i j))), some (.int (nI (j + 1))), X6] [.int (nI g), .int (nI (lev h w i j))] (hC L xs J N2 G U p M D) (fun r h' => r = some (.int (nI (lev h w h.length w.length))) ∧ ∃ N', h' = hC L xs J N' G U p M D ∧ ∀ i, i ≠ 13 → N' i = N i) := by
            intro g hg
            have hg1 : g ≤ 1 := by rw [hg]; split <;> omega
            rw [← hg] at hss
            iterate 1 refine go_s rfl rfl rfl trivial ?_
            rw [nI_add]
            iterate 4 refine go_s rfl rfl rfl trivial ?_
            refine go_s rfl rfl rfl ?_ ?_
            · exact vp_in_nI (by omega) (by omega)
            simp only [cj1, t2 (j + 1) (by omega) (by omega)]
            iterate 9 refine go_s rfl rfl rfl trivial ?_
            refine go_s rfl rfl rfl ?_ ?_
            · exact vp_in_nI (by omega) (by omega)
            simp only [cj1, t2 (j + 1) (by omega) (by omega)]
            iterate 5 refine go_s rfl rfl rfl trivial ?_
            rw [nI_pred]
            refine go_s rfl rfl rfl ?_ ?_
            · exact vp_in_nI (by omega) (by omega)
            simp only [cj, t1 j (Nat.le_refl _)]
            iterate 1 refine go_s rfl rfl rfl trivial ?_
            rw [minI (by omega) (by omega)]
            iterate 1 refine go_s rfl rfl rfl trivial ?_
            rw [show (1 : Int32) + nI (min (lev h w i (j + 1)) (lev h w (i + 1) j)) = nI (1 + min (lev h w i (j + 1)) (lev h w (i + 1) j)) from nI_add 1 _]
            iterate 1 refine go_s rfl rfl rfl trivial ?_
            rw [minI' (c := lev h w (i + 1) (j + 1)) (by omega) (by omega) (by omega)]
            refine go_s rfl rfl rfl ?_ ?_
            · exact vp_in_nI (by omega) (by omega)
            simp only [cj1]
            iterate 2 refine go_s rfl rfl rfl trivial ?_
            rw [nI_1]
            refine ih2 (j + 1) _ (va_up N2 13 (upd (N2 13) (j + 1) (nI (lev h w (i + 1) (j + 1))))) (by omega) (fun j' hj' => ?_) (fun j' h1 h2 => ?_) (fun i hi => (va_up_ne _ _ hi).trans (hN2 i hi))
            · rw [va_up_self]
              by_cases e : j' = j + 1
              · subst e; rw [pk_us]
              · rw [pk_un e]; exact t1 j' (by omega)
            · rw [va_up_self, pk_un (by omega)]
              exact t2 j' (by omega) h2
          iterate 1 refine go_s rfl rfl rfl trivial ?_
          refine go_if (fun hc => ?_) (fun hc => ?_)
          · have hne : ¬ h.getD i 0 = w.getD j 0 := fun q => hc (by rw [hde.mpr q])
            iterate 1 refine go_s rfl rfl rfl trivial ?_
            exact nx 1 (by rw [if_neg hne])
          · have he : h.getD i 0 = w.getD j 0 := hde.mp (nI_inj (by omega) (by omega) (Classical.not_not.mp hc))
            iterate 2 refine go_s rfl rfl rfl trivial ?_
            exact nx 0 (by rw [if_pos he])
      have h0t : (va_up N1 13 (upd (N1 13) 0 (nI (i + 1)))) 13 = upd (N1 13) 0 (nI (i + 1)) := va_up_self _ _ _
      refine inner w.length 0 _ (va_up N1 13 (upd (N1 13) 0 (nI (i + 1)))) (by omega) (fun j' hj' => ?_) (fun j' h1 h2 => ?_) (fun i hi => (va_up_ne _ _ hi).trans (hN i hi))
      · have e : j' = 0 := by omega
        subst e
        rw [h0t, pk_us]
        rfl
      · rw [h0t, pk_un (by omega)]
        exact hT j' h2
  have l12 : ∀ (d j : Nat) (N1 : Nat → Nat → Int32), w.length + 1 = j + d → (∀ j', j' < j → N1 13 j' = nI j') → (∀ i, i ≠ 13 → N1 i = N i) → Go m_Li_changesNeeded 12 [some (.ref 42), some (.int (nI w.length)), some (.int (nI w.length)), some (.int (nI j)), none, none, none] [] (hC L xs J N1 G U p M D) (fun r h' => r = some (.int (nI (lev h w h.length w.length))) ∧ ∃ N', h' = hC L xs J N' G U p M D ∧ ∀ i, i ≠ 13 → N' i = N i) := by
    intro d
    induction d with
    | zero =>
      intro j N1 hj hT hN
      iterate 3 refine go_s rfl rfl rfl trivial ?_
      refine go_if (fun _ => ?_) (fun hc => absurd (nI_lt (by omega) (by omega)) hc)
      iterate 2 refine go_s rfl rfl rfl trivial ?_
      exact l32 h.length 0 _ _ _ N1 (by omega) (fun j' hj' => hT j' (by omega)) hN
    | succ d ih =>
      intro j N1 hj hT hN
      have cj : (nI j).toNatClampNeg = j := nI_clamp (by omega)
      iterate 3 refine go_s rfl rfl rfl trivial ?_
      refine go_if (fun hc => absurd hc (nI_nlt (by omega) (by omega))) (fun _ => ?_)
      iterate 4 refine go_s rfl rfl rfl trivial ?_
      refine go_s rfl rfl rfl ?_ ?_
      · exact vp_in_nI (by omega) (by omega)
      simp only [cj]
      iterate 2 refine go_s rfl rfl rfl trivial ?_
      rw [nI_1]
      refine ih (j + 1) (va_up N1 13 (upd (N1 13) j (nI j))) (by omega) (fun j' hj' => ?_) (fun i hi => (va_up_ne _ _ hi).trans (hN i hi))
      rw [va_up_self]
      by_cases e : j' = j
      · subst e; rw [pk_us]
      · rw [pk_un e]; exact hT j' (by omega)
  iterate 4 refine go_s rfl rfl rfl trivial ?_
  iterate 1 refine go_s rfl rfl rfl trivial ?_
  rw [show (if (Int32.ofNat 12) < nI w.length then (Int32.ofNat 12) else nI w.length) = nI w.length from minI' (a := 12) (by omega) (by omega) (by omega)]
  iterate 3 refine go_s rfl rfl rfl trivial ?_
  exact l12 (w.length + 1) 0 N (by omega) (fun j' hj' => absurd hj' (Nat.not_lt_zero j')) (fun _ _ => rfl)
/-- the state while words are offered -/
def cLk (h : List Nat) (A : tx_K) (J : Nat → Int32) (N : Nat → Nat → Int32) (G : Nat → Nat → Int64) : Prop := cL A J N G ∧ J 18 = nI h.length ∧ spr h (N 11)
/-- what they change -/
def lkV (J : Nat → Int32) (N : Nat → Nat → Int32) (G : Nat → Nat → Int64) (J' : Nat → Int32) (N' : Nat → Nat → Int32) (G' : Nat → Nat → Int64) : Prop := (∀ i, i ≠ 17 → J' i = J i) ∧ (∀ i, i ≠ 10 → i ≠ 12 → i ≠ 13 → N' i = N i) ∧ ∀ i, i ≠ 16 → G' i = G i
theorem lkV.rf (J : Nat → Int32) (N : Nat → Nat → Int32) (G : Nat → Nat → Int64) : lkV J N G J N G := ⟨fun _ _ => rfl, fun _ _ _ _ => rfl, fun _ _ => rfl⟩
theorem lkV.tr {J J1 J2 : Nat → Int32} {N N1 N2 : Nat → Nat → Int32} {G G1 G2 : Nat → Nat → Int64} (h1 : lkV J N G J1 N1 G1) (h2 : lkV J1 N1 G1 J2 N2 G2) : lkV J N G J2 N2 G2 := ⟨fun i a => (h2.1 i a).trans (h1.1 i a), fun i a b c => (h2.2.1 i a b c).trans (h1.2.1 i a b c), fun i a => (h2.2.2 i a).trans (h1.2.2 i a)⟩
theorem c_offer {h w : List Nat} {m : Int32} {E : Nat → List Nat → Option (List Nat)} {l : Nat} (hs : cLk h A J N G) (hh : wok0 h) (hw : wok w) (hA : A.1 < 400) : Do m_Li_offer [.ref 42, .long (wuI (E l w) w), .int m] (hC L xs J N G U p M D) (fun r h' => r = none ∧ ∃ J' N' G', h' = hC L xs J' N' G' U p M D ∧ cLk h (lkS E l h m A w) J' N' G' ∧ lkV J N G J' N' G') := by
  obtain ⟨s1, s2, s3⟩ := id hs
  have skip : ∀ {N1 : Nat → Nat → Int32}, ¬ lkC E l h m A w → cLk h A J N1 G → lkV J N G J N1 G → (none : Option Value) = none ∧ ∃ J' N' G', hC L xs J N1 G U p M D = hC L xs J' N' G' U p M D ∧ cLk h (lkS E l h m A w) J' N' G' ∧ lkV J N G J' N' G' := by
    intro N1 q k1 k2
    refine ⟨rfl, J, N1, G, rfl, ?_, k2⟩
    rw [lkS, ifp_f q]
    exact k1
  cases hE : E l w with
  | none =>
    iterate 4 refine go_s rfl rfl rfl trivial ?_
    refine go_if (fun _ => ?_) (fun hc => absurd ((lg_cmp_eq _ _).mpr rfl) hc)
    exact go_r rfl rfl rfl trivial (skip (fun q => q.2.1 hE) hs (lkV.rf J N G))
  | some u =>
    change Go m_Li_offer 0 [some (.ref 42), some (.long (lN (enc w))), none, some (.int m), none] [] (hC L xs J N G U p M D) _
    iterate 4 refine go_s rfl rfl rfl trivial ?_
    refine go_if (fun hc => ?_) (fun _ => ?_)
    · have := (encZ hw.o).mp ((lg_cmp_eq _ _).mp hc)
      have h0 := hw.1
      rw [this] at h0
      exact absurd h0 (by decide)
    · iterate 2 refine go_s rfl rfl rfl trivial ?_
      refine go_c rfl rfl rfl (c_holds s1 hw.o) ?_
      rintro r h0 ⟨rfl, rfl⟩
      iterate 1 refine go_s rfl rfl rfl trivial ?_
      refine go_if (fun hc => ?_) (fun hc => ?_)
      · have hno := b01_eq0.mp hc
        iterate 4 refine go_s rfl rfl rfl trivial ?_
        refine go_c rfl rfl rfl (c_spread (h := hC L xs J N G U p M D) (a := 46) (f := N 12) hw.o (by decide) rfl) ?_
        rintro r h0 ⟨rfl, g, rfl, hg⟩
        change Go m_Li_offer 24 _ _ (hC L xs J (va_up N 12 g) G U p M D) _
        refine go_c rfl rfl rfl (c_changesNeeded (N := va_up N 12 g) hh hw.o s2 s3 hg) ?_
        rintro r h0 ⟨rfl, N2, rfl, hN2⟩
        have k12 : ∀ i, i ≠ 12 → i ≠ 13 → N2 i = N i := fun i a b => (hN2 i b).trans (va_up_ne _ _ a)
        have hs2 : cLk h A J N2 G := ⟨⟨s1.1, s1.2.1, fun i hi => by rw [k12 10 (by decide) (by decide)]; exact s1.2.2 i hi⟩, s2, fun i hi => by rw [k12 11 (by decide) (by decide)]; exact s3 i hi⟩
        have hv2 : lkV J N G J N2 G := ⟨fun _ _ => rfl, fun i _ b c => k12 i b c, fun _ _ => rfl⟩
        have ed : lev h w h.length w.length = lvd w h := by rw [lvd, lev_sym]
        have h24 : lvd w h ≤ 24 := lvd_le hw.2.1 hh.1
        rw [ed]
        iterate 4 refine go_s rfl rfl rfl trivial ?_
        refine go_if (fun hc1 => ?_) (fun hc1 => ?_)
        · exact go_r rfl rfl rfl trivial (skip (fun q => Int32.not_lt.mpr q.1 hc1) hs2 hv2)
        · have hC : lkC E l h m A w := ⟨Int32.not_lt.mp hc1, (by rw [hE]; exact (fun q => by cases q)), hno⟩
          iterate 3 refine go_s rfl rfl rfl trivial ?_
          refine go_c rfl rfl rfl (c_insert hs2.1 hw h24 hA) ?_
          rintro r h0 ⟨rfl, J3, N3, G3, rfl, t1, t2, t3, t4⟩
          refine go_r rfl rfl rfl trivial ⟨rfl, J3, N3, G3, rfl, ?_, hv2.tr ⟨t2, fun i a _ _ => t3 i a, t4⟩⟩
          rw [lkS, ifp_t hC]
          exact ⟨t1, (t2 18 (by decide)).trans s2, fun i hi => by rw [t3 11 (by decide)]; exact hs2.2.2 i hi⟩
      · have hyes := Classical.not_not.mp fun q => hc (b01_f q)
        exact go_r rfl rfl rfl trivial (skip (fun q => q.2.2 hyes) hs (lkV.rf J N G))
theorem c_search {X : tx_X} {E : Nat → List Nat → Option (List Nat)} {h : List Nat} {l : Nat} {m : Int32} (hX : cXs X J N G) (hT : cXt X G E) (he : eok E) (hl : l < 3) (hh : wok0 h) (h17 : J 17 = 0) : Do m_Li_search [.ref 42, .ref 25, .int (nI l), .long (lN (enc h)), .int m] (hC L xs J N G U p M D) (fun r h' => r = none ∧ ∃ J' N' G', h' = hC L xs J' N' G' U p M D ∧ cL (lkF E X l h m (xnt X)) J' N' G' ∧ (∀ i, i ≠ 17 → i ≠ 18 → J' i = J i) ∧ (∀ i, i < 10 → N' i = N i) ∧ ∀ i, i ≠ 16 → G' i = G i) := by
  have a3 := hX.2.2.1
  have a4 := hX.2.2.2.1
  iterate 4 refine go_s rfl rfl rfl trivial ?_
  refine go_c rfl rfl rfl (c_spread (h := hC L xs J N G U p M D) (a := 45) (f := N 11) hh (by decide) rfl) ?_
  rintro r h0 ⟨rfl, g, rfl, hg⟩
  change Go m_Li_search 9 _ _ (hC L xs J (va_up N 11 g) G U p M D) _
  iterate 3 refine go_s rfl rfl rfl trivial ?_
  have hX0 : cXs X (va_up J 18 (nI h.length)) (va_up N 11 g) G := hX.keep rfl rfl (fun i a b => va_up_ne _ _ (by omega)) rfl
  have hs0 : cLk h (lkF E X l h m 0) (va_up J 18 (nI h.length)) (va_up N 11 g) G := ⟨⟨h17, Nat.zero_le _, fun i hi => absurd hi (Nat.not_lt_zero i)⟩, rfl, hg⟩
  have fX : ∀ {J1 : Nat → Int32} {N1 : Nat → Nat → Int32} {G1 : Nat → Nat → Int64}, lkV (va_up J 18 (nI h.length)) (va_up N 11 g) G J1 N1 G1 → cXs X J1 N1 G1 ∧ cXt X G1 E := fun v => ⟨hX0.keep (v.1 8 (by decide)) (v.1 9 (by decide)) (fun i a b => v.2.1 i (by omega) (by omega) (by omega)) (v.2.2 10 (by decide)), hT.keep (v.2.2 11 (by decide))⟩
  have key : ∀ (d t : Nat) (X7 X8 : Option Value) (J1 : Nat → Int32) (N1 : Nat → Nat → Int32) (G1 : Nat → Nat → Int64), 40 = t + d → cLk h (lkF E X l h m (min t (xnt X))) J1 N1 G1 → lkV (va_up J 18 (nI h.length)) (va_up N 11 g) G J1 N1 G1 → Go m_Li_search 15 [some (.ref 42), some (.ref 25), some (.int (nI l)), some (.long (lN (enc h))), none, some (.int m), some (.int (nI t)), X7, X8] [] (hC L xs J1 N1 G1 U p M D) (fun r h' => r = none ∧ ∃ J' N' G', h' = hC L xs J' N' G' U p M D ∧ cL (lkF E X l h m (xnt X)) J' N' G' ∧ (∀ i, i ≠ 17 → i ≠ 18 → J' i = J i) ∧ (∀ i, i < 10 → N' i = N i) ∧ ∀ i, i ≠ 16 → G' i = G i) := by
    intro d
    induction d with
    | zero =>
      intro t X7 X8 J1 N1 G1 ht hs hv
      have et : t = 40 := by omega
      subst et
      rw [Nat.min_eq_right a3] at hs
      iterate 3 refine go_s rfl rfl rfl trivial ?_
      refine go_if (fun _ => ?_) (fun hc => absurd (by decide) hc)
      exact go_r rfl rfl rfl trivial ⟨rfl, J1, N1, G1, rfl, hs.1, fun i a b => (hv.1 i a).trans (va_up_ne _ _ b), fun i hi => (hv.2.1 i (by omega) (by omega) (by omega)).trans (va_up_ne _ _ (by omega)), hv.2.2⟩
    | succ d ih =>
      intro t X7 X8 J1 N1 G1 ht hs hv
      obtain ⟨hX1, hT1⟩ := fX hv
      have nx : ∀ (Y7 Y8 : Option Value) (J2 : Nat → Int32) (N2 : Nat → Nat → Int32) (G2 : Nat → Nat → Int64), cLk h (lkF E X l h m (min (t + 1) (xnt X))) J2 N2 G2 → lkV (va_up J 18 (nI h.length)) (va_up N 11 g) G J2 N2 G2 → Go m_Li_search 78 [some (.ref 42), some (.ref 25), some (.int (nI l)), some (.long (lN (enc h))), none, some (.int m), some (.int (nI t)), Y7, Y8] [] (hC L xs J2 N2 G2 U p M D) (fun r h' => r = none ∧ ∃ J' N' G', h' = hC L xs J' N' G' U p M D ∧ cL (lkF E X l h m (xnt X)) J' N' G' ∧ (∀ i, i ≠ 17 → i ≠ 18 → J' i = J i) ∧ (∀ i, i < 10 → N' i = N i) ∧ ∀ i, i ≠ 16 → G' i = G i) := by
        intro Y7 Y8 J2 N2 G2 hs2 hv2
        iterate 2 refine go_s rfl rfl rfl trivial ?_
        rw [nI_1]
        exact ih (t + 1) Y7 Y8 J2 N2 G2 (by omega) hs2 hv2
      iterate 3 refine go_s rfl rfl rfl trivial ?_
      refine go_if (fun hc => absurd hc (nI_ge (a := t) (b := 40) (by omega) (by omega))) (fun _ => ?_)
      iterate 4 refine go_s rfl rfl rfl trivial ?_
      refine go_c rfl rfl rfl (c_isIn1 hX1 (t := t) (by omega) hl) ?_
      rintro r h0 ⟨rfl, rfl⟩
      iterate 1 refine go_s rfl rfl rfl trivial ?_
      refine go_if (fun hc => ?_) (fun hc => ?_)
      · have hn : ¬ (t < xnt X ∧ xlg X t = some l) := b01_eq0.mp hc
        have eF : lkF E X l h m (min (t + 1) (xnt X)) = lkF E X l h m (min t (xnt X)) := by
          rcases Nat.lt_or_ge t (xnt X) with q | q
          · rw [Nat.min_eq_left (by omega), Nat.min_eq_left (by omega), lkF, ifp_f (fun g => hn ⟨q, g⟩)]
          · rw [Nat.min_eq_right (by omega), Nat.min_eq_right (by omega)]
        iterate 4 refine go_s rfl rfl rfl trivial ?_
        refine go_c rfl rfl rfl (c_firstOf hX1 (t := t) (by omega)) ?_
        rintro r h0 ⟨rfl, rfl⟩
        have hf400 : fsT X t ≤ 400 := by
          rw [fsT]
          by_cases q : hereT X t
          · have := stX_le X (t := t) (n := xnt X) (by have := q.1; omega)
            rw [ifp_t q]; omega
          · rw [ifp_f q]; omega
        iterate 4 refine go_s rfl rfl rfl trivial ?_
        refine go_if (fun _ => ?_) (fun hc1 => absurd (nI_pos' (by omega)) hc1)
        exact nx _ _ J1 N1 G1 (by rw [eF]; exact hs) hv
      · obtain ⟨htn, hlt⟩ : t < xnt X ∧ xlg X t = some l := Classical.not_not.mp fun q => hc (b01_f q)
        obtain ⟨t40, -, c48, b400, e1, e2, hwd⟩ := hX1.of htn hlt
        have eF : lkF E X l h m (min (t + 1) (xnt X)) = lkG E l h m (xwd X t) (lkF E X l h m t) (xcn X t) := by
          rw [Nat.min_eq_left (by omega), lkF, ifp_t hlt]
        rw [Nat.min_eq_left (by omega)] at hs
        have hle := lkF_le E X l h m t
        iterate 2 refine go_s rfl rfl rfl trivial ?_
        refine go_c rfl rfl rfl (c_endOf hX1 (t := t) (by omega)) ?_
        rintro r h0 ⟨rfl, rfl⟩
        iterate 4 refine go_s rfl rfl rfl trivial ?_
        refine go_c rfl rfl rfl (c_firstOf hX1 (t := t) (by omega)) ?_
        rintro r h0 ⟨rfl, rfl⟩
        rw [e1, e2]
        iterate 1 refine go_s rfl rfl rfl trivial ?_
        have inner : ∀ (d k : Nat) (J2 : Nat → Int32) (N2 : Nat → Nat → Int32) (G2 : Nat → Nat → Int64), xcn X t = k + d → cLk h (lkG E l h m (xwd X t) (lkF E X l h m t) k) J2 N2 G2 → lkV (va_up J 18 (nI h.length)) (va_up N 11 g) G J2 N2 G2 → Go m_Li_search 53 [some (.ref 42), some (.ref 25), some (.int (nI l)), some (.long (lN (enc h))), none, some (.int m), some (.int (nI t)), some (.int (nI (stX X t + xcn X t))), some (.int (nI (stX X t + k)))] [] (hC L xs J2 N2 G2 U p M D) (fun r h' => r = none ∧ ∃ J' N' G', h' = hC L xs J' N' G' U p M D ∧ cL (lkF E X l h m (xnt X)) J' N' G' ∧ (∀ i, i ≠ 17 → i ≠ 18 → J' i = J i) ∧ (∀ i, i < 10 → N' i = N i) ∧ ∀ i, i ≠ 16 → G' i = G i) := by
          intro d
          induction d with
          | zero =>
            intro k J2 N2 G2 hk hs2 hv2
            have ek : k = xcn X t := by omega
            subst ek
            iterate 3 refine go_s rfl rfl rfl trivial ?_
            refine go_if (fun _ => ?_) (fun hc1 => absurd (Int32.le_refl _) hc1)
            exact nx _ _ J2 N2 G2 (by rw [eF]; exact hs2) hv2
          | succ d ih2 =>
            intro k J2 N2 G2 hk hs2 hv2
            obtain ⟨hX2, hT2⟩ := fX hv2
            have hle2 := lkG_le E l h m (xwd X t) (lkF E X l h m t) k
            have hwk := (hwd k (by omega)).2
            have hst : sumN (xcn X) t = stX X t := rfl
            iterate 3 refine go_s rfl rfl rfl trivial ?_
            refine go_if (fun hc1 => absurd hc1 (nI_ge (by omega) (by omega))) (fun _ => ?_)
            iterate 3 refine go_s rfl rfl rfl trivial ?_
            refine go_c rfl rfl rfl (c_wordUnlessStop hX2 hT2 he htn hlt (q := k) (by omega)) ?_
            rintro r h0 ⟨rfl, rfl⟩
            iterate 1 refine go_s rfl rfl rfl trivial ?_
            refine go_c rfl rfl rfl (c_offer (E := E) (l := l) hs2 hh hwk (by omega)) ?_
            rintro r h0 ⟨rfl, J3, N3, G3, rfl, t1, t2⟩
            iterate 2 refine go_s rfl rfl rfl trivial ?_
            rw [nI_1]
            exact ih2 (k + 1) J3 N3 G3 (by omega) t1 (hv2.tr t2)
        exact inner (xcn X t) 0 J1 N1 G1 (by omega) hs hv
  exact key 40 0 _ _ (va_up J 18 (nI h.length)) (va_up N 11 g) G rfl (by rw [Nat.zero_min]; exact hs0) (lkV.rf _ _ _)
end LIKES2
