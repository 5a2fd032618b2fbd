/-! ===== the class reads a question ===== -/
def kR (k : Nat) : Nat := if k = 2 then 3 else if k = 1 then 2 else 1
noncomputable def qob (q : tx_q) : List Value := [.ref (kR q.2.1), .int (b01 (q.2.2.1 = true)), .int (nI q.1), .int (nI q.2.2.2.1), .int (nI q.2.2.2.2)]
def cQp (Q : tx_Q) (f : Nat → Nat) (D : List am_C) : Prop := ∀ i, i < Q.1 → am_get D (f i) = some (.inr (9, qob (Q.2.1 i)))
/-- what has changed since, but for k parts -/
def qfr (J0 : Nat → Int32) (G0 : Nat → Nat → Int64) (p0 : Nat → Nat) (D0 : List am_C) (k : Nat) (J : Nat → Int32) (G : Nat → Nat → Int64) (p : Nat → Nat) (D : List am_C) : Prop := (∀ i, i < 10 ∨ i = 11 ∨ 15 < i → J i = J0 i) ∧ (∀ i, i ≠ 12 → G i = G0 i) ∧ (∀ i, i ≠ 3 → p i = p0 i) ∧ dP D0 D ∧ am_sz D ≤ am_sz D0 + 105 * k ∧ D.length ≤ D0.length + 2 * k
/-- the state while a question is read -/
def qR (pl row : Nat) (Q : tx_Q) (f : Nat → Nat) (J0 : Nat → Int32) (G0 : Nat → Nat → Int64) (p0 : Nat → Nat) (D0 : List am_C) (J : Nat → Int32) (G : Nat → Nat → Int64) (p : Nat → Nat) (D : List am_C) : Prop := J 12 = nI pl ∧ J 13 = nI row ∧ J 10 = nI Q.2.2.1 ∧ (∀ j, j < Q.2.2.1 → G 12 j = lN (enc (Q.2.2.2 j))) ∧ Q.2.2.1 ≤ 48 ∧ cLst Q.1 f p J D ∧ cQp Q f D ∧ qfr J0 G0 p0 D0 Q.1 J G p D
/-- with a fault at g -/
def qF (g : Nat) (J0 : Nat → Int32) (G0 : Nat → Nat → Int64) (p0 : Nat → Nat) (D0 : List am_C) (J : Nat → Int32) (G : Nat → Nat → Int64) (p : Nat → Nat) (D : List am_C) : Prop := J 12 = nI g ∧ g < 300 ∧ (∃ n f, cLst n f p J D) ∧ qfr J0 G0 p0 D0 48 J G p D
theorem cLst.kj {n : Nat} {f p : Nat → Nat} {J J' : Nat → Int32} {D : List am_C} (h : cLst n f p J D) (h15 : J' 15 = J 15) : cLst n f p J' D := ⟨h15.trans h.1, h.2⟩
theorem cLst.push {n : Nat} {f p : Nat → Nat} {J : Nat → Int32} {D : List am_C} (h : cLst n f p J D) (c : am_C) : cLst n f p J (D ++ [c]) := by
  obtain ⟨h1, h2, h3⟩ := h
  refine ⟨h1, h2, ?_⟩
  rcases h3 with h3 | ⟨j, cap, ff, e1, e2, e3, e4, e5, e6, e7⟩
  · exact Or.inl h3
  · refine Or.inr ⟨j, cap, ff, e1, by rw [am_get_push _ _ (am_get_lt e2)]; exact e2, e3, e4, e5, e6, fun i hi => ?_⟩
    obtain ⟨fs, q⟩ := e7 i hi
    exact ⟨fs, by rw [am_get_push _ _ (am_get_lt q)]; exact q⟩
theorem qR.mv {pl row pl' : Nat} {Q : tx_Q} {f : Nat → Nat} {J0 J : Nat → Int32} {G0 G : Nat → Nat → Int64} {p0 p : Nat → Nat} {D0 D : List am_C} (h : qR pl row Q f J0 G0 p0 D0 J G p D) : qR pl' row Q f J0 G0 p0 D0 (va_up J 12 (nI pl')) G p D := by
  obtain ⟨h1, h2, h3, h4, h5, h6, h7, h8, h9⟩ := h
  exact ⟨va_up_self _ _ _, (va_up_ne _ _ (by decide)).trans h2, (va_up_ne _ _ (by decide)).trans h3, h4, h5, h6.kj (va_up_ne _ _ (by decide)), h7, fun i hi => (va_up_ne _ _ (by omega)).trans (h8 i hi), h9⟩
theorem qR.bad {pl row g : Nat} {Q : tx_Q} {f : Nat → Nat} {J0 J : Nat → Int32} {G0 G : Nat → Nat → Int64} {p0 p : Nat → Nat} {D0 D : List am_C} (h : qR pl row Q f J0 G0 p0 D0 J G p D) (hg : pl = g) (h300 : g < 300) (hQ : Q.1 ≤ 48) : qF g J0 G0 p0 D0 J G p D := by
  obtain ⟨h1, h2, h3, h4, h5, h6, h7, h8, h9, h10, h11, h12, h13⟩ := h
  exact ⟨by rw [← hg]; exact h1, h300, ⟨_, _, h6⟩, h8, h9, h10, h11, by omega, by omega⟩
theorem qR.word {pl row : Nat} {Q : tx_Q} {f : Nat → Nat} {J0 J : Nat → Int32} {G0 G : Nat → Nat → Int64} {p0 p : Nat → Nat} {D0 D : List am_C} {w : List Nat} (h : qR pl row Q f J0 G0 p0 D0 J G p D) (hn : Q.2.2.1 < 48) : qR pl row (Q.1, Q.2.1, Q.2.2.1 + 1, va_up Q.2.2.2 Q.2.2.1 w) f J0 G0 p0 D0 (va_up J 10 (nI (Q.2.2.1 + 1))) (va_up G 12 (vp_updL (G 12) Q.2.2.1 (lN (enc w)))) p D := by
  obtain ⟨h1, h2, h3, h4, h5, h6, h7, h8, h9, h10, h11⟩ := h
  refine ⟨(va_up_ne _ _ (by decide)).trans h1, (va_up_ne _ _ (by decide)).trans h2, va_up_self _ _ _, fun j hj => ?_, hn, h6.kj (va_up_ne _ _ (by decide)), h7, fun i hi => (va_up_ne _ _ (by omega)).trans (h8 i hi), fun i hi => (va_up_ne _ _ hi).trans (h9 i hi), h10, h11⟩
  have hj' : j < Q.2.2.1 + 1 := hj
  show va_up G 12 (vp_updL (G 12) Q.2.2.1 (lN (enc w))) 12 j = lN (enc (va_up Q.2.2.2 Q.2.2.1 w j))
  rw [va_up_self]
  by_cases e : j = Q.2.2.1
  · subst e; rw [pk_uLs, va_up_self]
  · rw [pk_uLn e, va_up_ne _ _ e]; exact h4 j (by omega)
section QREAD
variable {L : Nat} {xs : Nat → Int32} {J : Nat → Int32} {N : Nat → Nat → Int32} {G : Nat → Nat → Int64} {U : Int64} {p : Nat → Nat} {M : Nat → am_C} {D : List am_C} {P : tx_P} {J0 : Nat → Int32} {G0 : Nat → Nat → Int64} {p0 : Nat → Nat} {D0 : List am_C}
theorem cP.kj {J' : Nat → Int32} (h : cP P J N) (h0 : J' 0 = J 0) : cP P J' N := h.keep h0 rfl
theorem qR.cP {pl row : Nat} {Q : tx_Q} {f : Nat → Nat} (h : qR pl row Q f J0 G0 p0 D0 J G p D) (hP : cP P J0 N) : cP P J N := hP.kj (h.2.2.2.2.2.2.2.1 0 (Or.inl (by decide)))
/-- a part comes to the list -/
theorem c_addObj {pl row : Nat} {Q : tx_Q} {f : Nat → Nat} {q : tx_q} (h : qR pl row Q f J0 G0 p0 D0 J G p D) (hQ : Q.1 < 48) : Do m_AL_add2 [.ref 35, .ref (D.length + 70)] (hC L xs J N G U p M (D ++ [.inr (9, qob q)])) (fun r h' => r = some (.int 1) ∧ ∃ J' p' D' f', h' = hC L xs J' N G U p' M D' ∧ qR pl row (Q.1 + 1, va_up Q.2.1 Q.1 q, Q.2.2.1, Q.2.2.2) f' J0 G0 p0 D0 J' G p' D') := by
  obtain ⟨h1, h2, h3, h4, h5, h6, h7, h8, h9, h10, h11, h12, h13⟩ := h
  refine (c_AL_add (h6.push (.inr (9, qob q))) hQ (get_push D (.inr (9, qob q)))).mono fun r h' g => ?_
  obtain ⟨g1, J', p', D', g2, g3, g4, g5, g6, g7, g8⟩ := g
  have hsz : am_sz (D ++ [.inr (9, qob q)]) = am_sz D + 5 := am_sz_push D _
  have hln : (D ++ [(.inr (9, qob q) : am_C)]).length = D.length + 1 := by rw [List.length_append]; rfl
  refine ⟨g1, J', p', D', va_up f Q.1 D.length, g2, (g4 12 (by decide) (by decide)).trans h1, (g4 13 (by decide) (by decide)).trans h2, (g4 10 (by decide) (by decide)).trans h3, h4, h5, g3, fun i hi => ?_, fun i hi => (g4 i (by omega) (by omega)).trans (h8 i hi), h9, fun i hi => (g5 i hi).trans (h10 i hi), (h11.tr (dP.push D _)).tr g6, ?_, ?_⟩
  · have hi' : i < Q.1 + 1 := hi
    show am_get D' (va_up f Q.1 D.length i) = some (.inr (9, qob (va_up Q.2.1 Q.1 q i)))
    by_cases e : i = Q.1
    · subst e
      rw [va_up_self, va_up_self]
      exact g6.part (get_push _ _)
    · rw [va_up_ne _ _ e, va_up_ne _ _ e]
      have := h7 i (by omega)
      exact g6.part (by rw [am_get_push _ _ (am_get_lt this)]; exact this)
  · show am_sz D' ≤ am_sz D0 + 105 * (Q.1 + 1)
    omega
  · show D'.length ≤ D0.length + 2 * (Q.1 + 1)
    omega
theorem c_skipBlanks (hP : cP P J N) {pl : Nat} (h12 : J 12 = nI pl) (hp : pl ≤ P.2) : Do m_Qu_skipBlanks [.ref 34] (hC L xs J N G U p M D) (fun r h' => r = none ∧ h' = hC L xs (va_up J 12 (nI (sk P pl))) N G U p M D) := by
  have h96 := hP.2.1
  have key : ∀ (d i q : Nat) (J1 : Nat → Int32), P.2 - q = d → i + d ≤ 96 → q ≤ P.2 → sk P pl = sk P q → J1 = va_up J 12 (nI q) → Go m_Qu_skipBlanks 2 [some (.ref 34), some (.int (nI i))] [] (hC L xs J1 N G U p M D) (fun r h' => r = none ∧ h' = hC L xs (va_up J 12 (nI (sk P pl))) N G U p M D) := by
    intro d
    induction d with
    | zero =>
      intro i q J1 hd hi hq hs hJ
      have hno : sy P q ≠ 32 := by rw [sy_out (by omega)]; decide
      have fin : Go m_Qu_skipBlanks 40 [some (.ref 34), some (.int (nI i))] [] (hC L xs J1 N G U p M D) (fun r h' => r = none ∧ h' = hC L xs (va_up J 12 (nI (sk P pl))) N G U p M D) := by
        refine go_r rfl rfl rfl trivial ⟨rfl, ?_⟩
        rw [hs, sk_no hno, hJ]
      iterate 3 refine go_s rfl rfl rfl trivial ?_
      refine go_if (fun _ => fin) (fun _ => ?_)
      iterate 4 refine go_s rfl rfl rfl trivial ?_
      change Go m_Qu_skipBlanks 16 _ [.int (J1 12), .ref 7] _ _
      rw [show J1 12 = nI q by rw [hJ, va_up_self]]
      refine go_c rfl rfl rfl (c_Ta_symbolAt (hP.kj (J' := J1) (by rw [hJ]; exact va_up_ne _ _ (by decide))) (k := q) (by omega)) ?_
      rintro r h3 ⟨rfl, rfl⟩
      iterate 2 refine go_s rfl rfl rfl trivial ?_
      refine go_if (fun _ => fin) (fun hc => ?_)
      exact absurd ((symI_eq (c := 32) hP.lt (by decide)).mp (Classical.not_not.mp hc)) hno
    | succ d ih =>
      intro i q J1 hd hi hq hs hJ
      have e12 : J1 12 = nI q := by rw [hJ, va_up_self]
      iterate 3 refine go_s rfl rfl rfl trivial ?_
      refine go_if (fun hc => absurd hc (nI_ge (a := i) (b := 96) (by omega) (by omega))) (fun _ => ?_)
      iterate 4 refine go_s rfl rfl rfl trivial ?_
      rw [e12]
      refine go_c rfl rfl rfl (c_Ta_symbolAt (hP.kj (J' := J1) (by rw [hJ]; exact va_up_ne _ _ (by decide))) (k := q) (by omega)) ?_
      rintro r h3 ⟨rfl, rfl⟩
      iterate 2 refine go_s rfl rfl rfl trivial ?_
      refine go_if (fun hc => ?_) (fun hc => ?_)
      · have hno : sy P q ≠ 32 := fun g => hc ((symI_eq (c := 32) hP.lt (by decide)).mpr g)
        refine go_r rfl rfl rfl trivial ⟨rfl, ?_⟩
        rw [hs, sk_no hno, hJ]
      · have hyes := (symI_eq (c := 32) hP.lt (by decide)).mp (Classical.not_not.mp hc)
        iterate 3 refine go_s rfl rfl rfl trivial ?_
        rw [e12]
        iterate 2 refine go_s rfl rfl rfl trivial ?_
        rw [nI_1]
        iterate 1 refine go_s rfl rfl rfl trivial ?_
        change Go m_Qu_skipBlanks 34 _ _ (hC L xs (va_up J1 12 (nI (q + 1))) N G U p M D) _
        iterate 2 refine go_s rfl rfl rfl trivial ?_
        rw [nI_1]
        exact ih (i + 1) (q + 1) (va_up J1 12 (nI (q + 1))) (by omega) (by omega) (by omega) (hs.trans (sk_yes hyes)) (by rw [hJ, bx_uu])
  iterate 2 refine go_s rfl rfl rfl trivial ?_
  exact key (P.2 - pl) 0 pl J rfl (by omega) hp rfl (by rw [← h12, up_idG])
theorem c_Qu_readWord (hP : cP P J N) {pl : Nat} (h12 : J 12 = nI pl) (hp : pl ≤ P.2) : Do m_Qu_readWord [.ref 34] (hC L xs J N G U p M D) (fun r h' => (12 < wl P pl ∧ r = some (.long 0) ∧ h' = hC L xs (va_up J 12 (nI (pl + 12))) N G U p M D) ∨ (wl P pl ≤ 12 ∧ r = some (.long (lN (enc (wrd P pl (wl P pl))))) ∧ h' = hC L xs (va_up J 12 (nI (pl + wl P pl))) N G U p M D)) := by
  have h96 := hP.2.1
  have hwl := wl_le hp
  iterate 2 refine go_s rfl rfl rfl trivial ?_
  rw [h12]
  iterate 4 refine go_s rfl rfl rfl trivial ?_
  refine go_c rfl rfl rfl (c_Ta_wordEnd hP hp) ?_
  rintro r h3 ⟨rfl, rfl⟩
  iterate 4 refine go_s rfl rfl rfl trivial ?_
  rw [pk_sub (by omega), Nat.add_sub_cancel_left]
  iterate 2 refine go_s rfl rfl rfl trivial ?_
  refine go_if (fun hc => ?_) (fun hc => ?_)
  · have hle := (nI_leI (a := wl P pl) (b := 12) (by omega) (by omega)).mp hc
    iterate 3 refine go_s rfl rfl rfl trivial ?_
    change Go m_Qu_readWord 37 _ _ (hC L xs (va_up J 12 (nI (pl + wl P pl))) N G U p M D) _
    iterate 4 refine go_s rfl rfl rfl trivial ?_
    refine go_c rfl rfl rfl (c_Ta_wordBetween (hP.kj (J' := va_up J 12 (nI (pl + wl P pl))) (va_up_ne _ _ (by decide))) hp) ?_
    rintro r h3 ⟨rfl, rfl⟩
    refine go_r rfl rfl rfl trivial (Or.inr ⟨hle, ?_, rfl⟩)
    rw [List.take_of_length_le (by rw [wrd_len]; exact hle)]
  · have hgt : 12 < wl P pl := Nat.lt_of_not_le fun q => hc ((nI_leI (a := wl P pl) (b := 12) (by omega) (by omega)).mpr q)
    iterate 4 refine go_s rfl rfl rfl trivial ?_
    rw [show nI pl + 12 = nI (pl + 12) from nI_add pl 12]
    iterate 2 refine go_s rfl rfl rfl trivial ?_
    exact go_r rfl rfl rfl trivial (Or.inl ⟨hgt, rfl, rfl⟩)
theorem c_seek {nw : Nat} (h10 : J 10 = nI nw) (hn : nw < 48) (x : Int64) : Do m_Qu_seek [.ref 34, .long x] (hC L xs J N G U p M D) (fun r h' => r = none ∧ h' = hC L xs (va_up J 10 (nI (nw + 1))) N (va_up G 12 (vp_updL (G 12) nw x)) U p M D) := by
  have cn : (nI nw).toNatClampNeg = nw := nI_clamp (by omega)
  iterate 2 refine go_s rfl rfl rfl trivial ?_
  rw [h10]
  iterate 4 refine go_s rfl rfl rfl trivial ?_
  refine go_if (fun hc => absurd hc (nI_ge (a := nw) (b := 48) (by omega) (by omega))) (fun _ => ?_)
  iterate 4 refine go_s rfl rfl rfl trivial ?_
  rw [h10]
  iterate 1 refine go_s rfl rfl rfl trivial ?_
  refine go_s rfl rfl rfl ?_ ?_
  · exact vp_in_nI (by omega) (by omega)
  simp only [cn]
  iterate 3 refine go_s rfl rfl rfl trivial ?_
  rw [h10]
  iterate 2 refine go_s rfl rfl rfl trivial ?_
  rw [nI_1]
  iterate 1 refine go_s rfl rfl rfl trivial ?_
  exact go_r rfl rfl rfl trivial ⟨rfl, rfl⟩
theorem wrd_wok0 {P : tx_P} {pl : Nat} (h : wl P pl ≤ 12) : wok0 (wrd P pl (wl P pl)) := by
  by_cases e : wl P pl = 0
  · rw [e]
    exact ⟨by rw [wrd_len]; omega, fun x hx => by simp [wrd] at hx⟩
  · exact (wrd_ok (by omega) h (Nat.le_refl _)).o
theorem wrd_zero {P : tx_P} {pl : Nat} (h : wl P pl ≤ 12) : lN (enc (wrd P pl (wl P pl))) = 0 ↔ wl P pl = 0 := by
  rw [encZ (wrd_wok0 h)]
  constructor
  · intro q
    have := congrArg List.length q
    rw [wrd_len] at this
    exact this
  · intro q
    rw [q]
    rfl
/-- what a phrase leaves -/
def phC (P : tx_P) (row : Nat) (neg : Bool) (b : Nat) (Q : tx_Q) (J0 : Nat → Int32) (G0 : Nat → Nat → Int64) (p0 : Nat → Nat) (D0 : List am_C) (L : Nat) (xs : Nat → Int32) (N : Nat → Nat → Int32) (U : Int64) (M : Nat → am_C) (z : Nat ⊕ (Nat × Nat × (Nat → List Nat))) (r : Option Value) (h' : List am_C) : Prop := ∃ J' G' p' D', h' = hC L xs J' N G' U p' M D' ∧ match z with
  | .inl g => r = some (.int 0) ∧ qF g J0 G0 p0 D0 J' G' p' D'
  | .inr y => r = some (.int 1) ∧ (∃ f, qR y.1 row (Q.1 + 1, va_up Q.2.1 Q.1 (row, 2, neg, b, y.2.1 - b), y.2.1, y.2.2) f J0 G0 p0 D0 J' G' p' D') ∧ bnd P y.2.1 y.1 ∧ y.1 ≤ P.2
theorem l_cp7 {row b : Nat} {neg : Bool} {np : Nat} {ps : Nat → tx_q} (hP0 : cP P J0 N) (hnp : np ≤ b) : ∀ (f pl nw : Nat) (wq : Nat → List Nat) (fo : Nat → Nat) (X4 X5 : Option Value) (J : Nat → Int32) (G : Nat → Nat → Int64) (p : Nat → Nat) (D : List am_C), f ≤ 97 → pl ≤ P.2 → b ≤ nw → bnd P nw pl → qR pl row (np, ps, nw, wq) fo J0 G0 p0 D0 J G p D →
    Go m_Qu_readPhrase 7 [some (.ref 34), some (.int (b01 (neg = true))), some (.int (nI b)), some (.int (nI (97 - f))), X4, X5] [] (hC L xs J N G U p M D) (phC P row neg b (np, ps, nw, wq) J0 G0 p0 D0 L xs N U M (phF P b f pl nw wq)) := by
  intro f
  have h96 := hP0.2.1
  induction f with
  | zero =>
    intro pl nw wq fo X4 X5 J G p D hf hp hb hbd hs
    have h48 : nw ≤ 48 := hs.2.2.2.2.1
    iterate 3 refine go_s rfl rfl rfl trivial ?_
    refine go_if (fun _ => ?_) (fun hc => absurd (by decide) hc)
    iterate 1 refine go_s rfl rfl rfl trivial ?_
    refine go_r rfl rfl rfl (Or.inl rfl) ⟨J, G, p, D, rfl, rfl, hs.bad rfl (by omega) ?_⟩
    show np ≤ 48
    omega
  | succ f ih =>
    intro pl nw wq fo X4 X5 J G p D hf hp hb hbd hs
    have h48 : nw ≤ 48 := hs.2.2.2.2.1
    have hP := hs.cP hP0
    have hsg := sk_ge P pl
    have hsl := sk_le hp
    iterate 3 refine go_s rfl rfl rfl trivial ?_
    refine go_if (fun hc => absurd ((nI_ltI (a := 96) (b := 97 - (f + 1)) (by omega) (by omega)).mp hc) (by omega)) (fun _ => ?_)
    iterate 1 refine go_s rfl rfl rfl trivial ?_
    refine go_c rfl rfl rfl (c_skipBlanks hP hs.1 hp) ?_
    rintro r h3 ⟨rfl, rfl⟩
    have hs1 : qR (sk P pl) row (np, ps, nw, wq) fo J0 G0 p0 D0 (va_up J 12 (nI (sk P pl))) G p D := hs.mv
    have hP1 := hs1.cP hP0
    iterate 4 refine go_s rfl rfl rfl trivial ?_
    rw [show va_up J 12 (nI (sk P pl)) 12 = nI (sk P pl) from va_up_self _ _ _]
    refine go_c rfl rfl rfl (c_Ta_symbolAt hP1 (k := sk P pl) (by omega)) ?_
    rintro r h3 ⟨rfl, rfl⟩
    have word : ¬ (sy P (sk P pl) = 34 ∧ b < nw) → Go m_Qu_readPhrase 83 [some (.ref 34), some (.int (b01 (neg = true))), some (.int (nI b)), some (.int (nI (97 - (f + 1)))), X4, X5] [] (hC L xs (va_up J 12 (nI (sk P pl))) N G U p M D) (phC P row neg b (np, ps, nw, wq) J0 G0 p0 D0 L xs N U M (phF P b (f + 1) pl nw wq)) := by
      intro hno
      rw [phF, if_neg hno]
      iterate 1 refine go_s rfl rfl rfl trivial ?_
      refine go_c rfl rfl rfl (c_Qu_readWord hP1 hs1.1 hsl) ?_
      rintro r h3 (⟨hw, rfl, rfl⟩ | ⟨hw, rfl, rfl⟩)
      · rw [if_neg (by omega), if_pos hw]
        iterate 5 refine go_s rfl rfl rfl trivial ?_
        refine go_if (fun hc => absurd ((lg_cmp_eq _ _).mpr rfl) hc) (fun _ => ?_)
        iterate 1 refine go_s rfl rfl rfl trivial ?_
        refine go_r rfl rfl rfl (Or.inl rfl) ⟨_, G, p, D, rfl, rfl, (hs1.mv (pl' := sk P pl + 12)).bad rfl (by omega) ?_⟩
        show np ≤ 48
        omega
      · iterate 5 refine go_s rfl rfl rfl trivial ?_
        by_cases hz : wl P (sk P pl) = 0
        · rw [if_pos hz]
          refine go_if (fun hc => absurd ((lg_cmp_eq _ _).mpr ((wrd_zero hw).mpr hz)) hc) (fun _ => ?_)
          iterate 1 refine go_s rfl rfl rfl trivial ?_
          refine go_r rfl rfl rfl (Or.inl rfl) ⟨_, G, p, D, rfl, rfl, (hs1.mv (pl' := sk P pl + wl P (sk P pl))).bad (by omega) (by omega) ?_⟩
          show np ≤ 48
          omega
        · rw [if_neg hz, if_neg (show ¬ 12 < wl P (sk P pl) by omega)]
          obtain ⟨bn1, bn2, bn3⟩ := (hbd.le hsg).wd (by omega)
          have hwl := wl_le hsl
          refine go_if (fun _ => ?_) (fun hc => absurd ((wrd_zero hw).mp ((lg_cmp_eq _ _).mp (Classical.not_not.mp hc))) hz)
          have hs2 : qR (sk P pl + wl P (sk P pl)) row (np, ps, nw, wq) fo J0 G0 p0 D0 (va_up (va_up J 12 (nI (sk P pl))) 12 (nI (sk P pl + wl P (sk P pl)))) G p D := hs1.mv
          iterate 2 refine go_s rfl rfl rfl trivial ?_
          refine go_c rfl rfl rfl (c_seek hs2.2.2.1 (by show nw < 48; omega) (lN (enc (wrd P (sk P pl) (wl P (sk P pl)))))) ?_
          rintro r h3 ⟨rfl, rfl⟩
          have hs3 := hs2.word (w := wrd P (sk P pl) (wl P (sk P pl))) (by show nw < 48; omega)
          iterate 2 refine go_s rfl rfl rfl trivial ?_
          rw [nI_1, show 97 - (f + 1) + 1 = 97 - f by omega]
          exact ih _ _ _ fo _ _ _ _ _ _ (by omega) hwl (by omega) bn1 hs3
    iterate 2 refine go_s rfl rfl rfl trivial ?_
    refine go_if (fun hc => word (fun q => hc ((symI_eq (c := 34) hP.lt (by decide)).mpr q.1))) (fun hc => ?_)
    have h34 := (symI_eq (c := 34) hP.lt (by decide)).mp (Classical.not_not.mp hc)
    iterate 2 refine go_s rfl rfl rfl trivial ?_
    rw [show va_up J 12 (nI (sk P pl)) 10 = nI nw from (va_up_ne _ _ (by decide)).trans hs.2.2.1]
    iterate 2 refine go_s rfl rfl rfl trivial ?_
    refine go_if (fun hc1 => word (fun q => absurd ((nI_leI (by omega) (by omega)).mp hc1) (by omega))) (fun hc1 => ?_)
    have hbn : b < nw := Nat.lt_of_not_le fun q => hc1 ((nI_leI (by omega) (by omega)).mpr q)
    have hlt : sk P pl < P.2 := Nat.lt_of_not_le fun q => by rw [sy_out q] at h34; omega
    rw [phF, if_pos ⟨h34, hbn⟩]
    iterate 3 refine go_s rfl rfl rfl trivial ?_
    rw [show va_up J 12 (nI (sk P pl)) 12 = nI (sk P pl) from va_up_self _ _ _]
    iterate 2 refine go_s rfl rfl rfl trivial ?_
    rw [nI_1]
    iterate 1 refine go_s rfl rfl rfl trivial ?_
    change Go m_Qu_readPhrase 51 _ _ (hC L xs (va_up (va_up J 12 (nI (sk P pl))) 12 (nI (sk P pl + 1))) N G U p M D) _
    have hs2 : qR (sk P pl + 1) row (np, ps, nw, wq) fo J0 G0 p0 D0 (va_up (va_up J 12 (nI (sk P pl))) 12 (nI (sk P pl + 1))) G p D := hs1.mv
    generalize va_up (va_up J 12 (nI (sk P pl))) 12 (nI (sk P pl + 1)) = J2 at *
    iterate 3 refine go_s rfl rfl rfl trivial ?_
    change Go m_Qu_readPhrase 58 _ [.ref (D.length + 70), .ref 35] (hC L xs J2 N G U p M (D ++ [.inr (9, [.null, .int 0, .int 0, .int 0, .int 0])])) _
    iterate 5 refine go_s rfl rfl rfl trivial ?_
    rw [hs2.2.1]
    iterate 3 refine go_s rfl rfl rfl trivial ?_
    rw [hs2.2.2.1]
    iterate 2 refine go_s rfl rfl rfl trivial ?_
    rw [pk_sub (by show b ≤ nw; omega)]
    have hgp : am_get (hC L xs J2 N G U p M (D ++ [.inr (9, [.null, .int 0, .int 0, .int 0, .int 0])])) (D.length + 70) = some (.inr (9, [.null, .int 0, .int 0, .int 0, .int 0])) := get_push D (.inr (9, [.null, .int 0, .int 0, .int 0, .int 0]))
    refine go_c rfl rfl rfl (c_Pa_init (kd := 3) hgp (b01_g _)) ?_
    rintro r h3 ⟨rfl, rfl⟩
    have hset : am_set (hC L xs J2 N G U p M (D ++ [.inr (9, [.null, .int 0, .int 0, .int 0, .int 0])])) (D.length + 70) (.inr (9, [.ref 3, .int (b01 (neg = true)), .int (nI row), .int (nI b), .int (nI (nw - b))])) = hC L xs J2 N G U p M (D ++ [.inr (9, qob (row, 2, neg, b, nw - b))]) := by
      show hC L xs J2 N G U p M (am_set (D ++ [.inr (9, [.null, .int 0, .int 0, .int 0, .int 0])]) D.length _) = _
      rw [set_push]
      rfl
    rw [hset]
    change Go m_Qu_readPhrase 77 _ [.ref (D.length + 70), .ref 35] _ _
    refine go_c rfl rfl rfl (c_addObj (q := (row, 2, neg, b, nw - b)) hs2 (by show np < 48; omega)) ?_
    rintro r h3 ⟨rfl, J', p', D', f', rfl, hs3⟩
    iterate 2 refine go_s rfl rfl rfl trivial ?_
    exact go_r rfl rfl rfl (Or.inr rfl) ⟨J', G, p', D', rfl, rfl, ⟨f', hs3⟩, (hbd.le hsg).up (Nat.lt_succ_self _), hlt⟩
end QREAD
