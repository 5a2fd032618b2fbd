/-! ===== the class's shelf ===== -/
def stX (X : tx_X) (t : Nat) : Nat := sumN (xcn X) t
theorem stX_s (X : tx_X) (t : Nat) : stX X (t + 1) = stX X t + xcn X t := rfl
theorem stX_le (X : tx_X) {t n : Nat} (h : t ≤ n) : stX X t ≤ stX X n := by
  induction h with
  | refl => exact Nat.le_refl _
  | step _ ih => rw [stX_s]; omega
theorem stX_inj (X : tx_X) {t t' q q' : Nat} (h : q < xcn X t) (h' : q' < xcn X t') (e : stX X t' + q' = stX X t + q) : t' = t ∧ q' = q := by
  rcases Nat.lt_trichotomy t' t with g | g | g
  · have := stX_le X (t := t' + 1) (n := t) g
    rw [stX_s] at this
    omega
  · subst g; exact ⟨rfl, by omega⟩
  · have := stX_le X (t := t + 1) (n := t') g
    rw [stX_s] at this
    omega
def cXs (X : tx_X) (J : Nat → Int32) (N : Nat → Nat → Int32) (G : Nat → Nat → Int64) : Prop := J 8 = nI (xnt X) ∧ J 9 = nI (stX X (xnt X)) ∧ xnt X ≤ 40 ∧ stX X (xnt X) ≤ 400 ∧ N 6 (xnt X) = nI (stX X (xnt X)) ∧ (∀ t, xnt X ≤ t → N 5 t = 0) ∧ ∀ t, t < xnt X → (∀ l, xlg X t = some l → l < 3 ∧ N 3 t = nI l) ∧ N 5 t = b01 (xlg X t = none) ∧ N 4 t = nI (xfd X t) ∧ xfd X t < 4 ∧ xcn X t ≤ 48 ∧ N 6 t = nI (stX X t) ∧ ∀ q, q < xcn X t → G 10 (stX X t + q) = lN (enc (xwd X t q)) ∧ wok (xwd X t q) ∧ N 7 (stX X t + q) = nI (xfr X t q) ∧ N 8 (stX X t + q) = nI (xfu X t q)
def cXt (X : tx_X) (G : Nat → Nat → Int64) (E : Nat → List Nat → Option (List Nat)) : Prop := ∀ t, t < xnt X → ∀ l, xlg X t = some l → ∀ q, q < xcn X t → G 11 (stX X t + q) = lN (encO (E l (xwd X t q)))
theorem cXs.keep {X : tx_X} {J J' : Nat → Int32} {N N' : Nat → Nat → Int32} {G G' : Nat → Nat → Int64} (h : cXs X J N G) (h8 : J' 8 = J 8) (h9 : J' 9 = J 9) (hN : ∀ i, 3 ≤ i → i ≤ 8 → N' i = N i) (hG : G' 10 = G 10) : cXs X J' N' G' := by
  obtain ⟨a1, a2, a3, a4, a5, a6, a7⟩ := h
  refine ⟨h8.trans a1, h9.trans a2, a3, a4, by rw [hN 6 (by omega) (by omega)]; exact a5, fun t ht => by rw [hN 5 (by omega) (by omega)]; exact a6 t ht, fun t ht => ?_⟩
  rw [hN 3 (by omega) (by omega), hN 4 (by omega) (by omega), hN 5 (by omega) (by omega), hN 6 (by omega) (by omega), hN 7 (by omega) (by omega), hN 8 (by omega) (by omega), hG]
  exact a7 t ht
theorem cXt.keep {X : tx_X} {G G' : Nat → Nat → Int64} {E : Nat → List Nat → Option (List Nat)} (h : cXt X G E) (hG : G' 11 = G 11) : cXt X G' E := fun t ht l hl q hq => by rw [hG]; exact h t ht l hl q hq
theorem encO_inj {o : Option (List Nat)} {v : List Nat} (ho : ∀ u, o = some u → wok u) (hv : wok v) : lN (encO o) = lN (enc v) ↔ o = some v := by
  cases o with
  | none =>
    constructor
    · intro h
      have h : lN 0 = lN (enc v) := h
      rw [pk_lEQ (by decide) (enc63 v)] at h
      have := (enc_z hv.o).mp h.symm
      have h0 := hv.1
      rw [this] at h0
      exact absurd h0 (by decide)
    · intro h; cases h
  | some u =>
    have hu := ho u rfl
    show lN (enc u) = lN (enc v) ↔ _
    rw [encI hu.o hv.o]
    exact ⟨fun h => by rw [h], fun h => Option.some.inj h⟩
theorem encO_z {o : Option (List Nat)} (ho : ∀ u, o = some u → wok u) : lN (encO o) = 0 ↔ o = none := by
  cases o with
  | none => exact ⟨fun _ => rfl, fun _ => rfl⟩
  | some u =>
    have hu := ho u rfl
    constructor
    · intro h
      have := (encZ hu.o).mp h
      have h0 := hu.1
      rw [this] at h0
      exact absurd h0 (by decide)
    · intro h; cases h
/-- stems of words are words -/
def eok (E : Nat → List Nat → Option (List Nat)) : Prop := ∀ l, l < 3 → ∀ w u, wok w → E l w = some u → wok u
theorem cnt_posI {P : Nat → Prop} : ∀ n, 0 < cnt P n ↔ ∃ j, j < n ∧ P j
  | 0 => ⟨fun h => absurd h (Nat.lt_irrefl 0), fun ⟨j, h, _⟩ => absurd h (Nat.not_lt_zero j)⟩
  | n + 1 => by
    by_cases q : P n
    · rw [cnt_t q]
      exact ⟨fun _ => ⟨n, Nat.lt_succ_self n, q⟩, fun _ => Nat.succ_pos _⟩
    · rw [cnt_f q, cnt_posI n]
      constructor
      · rintro ⟨j, j1, j2⟩; exact ⟨j, by omega, j2⟩
      · rintro ⟨j, j1, j2⟩
        refine ⟨j, ?_, j2⟩
        refine Nat.lt_of_le_of_ne (by omega) fun e => q (by rw [← e]; exact j2)
def hereT (X : tx_X) (t : Nat) : Prop := t < xnt X ∧ xlg X t ≠ none
noncomputable def fsT (X : tx_X) (t : Nat) : Nat := ifp (hereT X t) (stX X t) 0
noncomputable def enT (X : tx_X) (t : Nat) : Nat := ifp (hereT X t) (stX X (t + 1)) 0
theorem hereT_of {X : tx_X} {t l : Nat} (ht : t < xnt X) (hl : xlg X t = some l) : hereT X t := ⟨ht, by rw [hl]; exact fun q => by cases q⟩
theorem isT_n {X : tx_X} {t : Nat} (ht : t < 1000) (h40 : xnt X ≤ 40) : isT X (nI t) ↔ hereT X t := by
  constructor
  · rintro ⟨h1, h2, h3⟩
    rw [nI_clamp (by omega)] at h3
    exact ⟨(nI_ltI (by omega) (by omega)).mp h2, h3⟩
  · rintro ⟨h1, h2⟩
    exact isT_of h40 h1 h2
section SHELF
variable {L : Nat} {xs : Nat → Int32} {J : Nat → Int32} {N : Nat → Nat → Int32} {G : Nat → Nat → Int64} {U : Int64} {p : Nat → Nat} {M : Nat → am_C} {D : List am_C} {X : tx_X} {E : Nat → List Nat → Option (List Nat)}
theorem c_Sh_has (h : cXs X J N G) (x : Int32) : Do m_Sh_has [.ref 25, .int x] (hC L xs J N G U p M D) (fun r h' => r = some (.int (b01 (isT X x))) ∧ h' = hC L xs J N G U p M D) := by
  obtain ⟨a1, a2, a3, a4, a5, a6, a7⟩ := h
  have no : ¬ isT X x → Go m_Sh_has 31 [some (.ref 25), some (.int x)] [] (hC L xs J N G U p M D) (fun r h' => r = some (.int (b01 (isT X x))) ∧ h' = hC L xs J N G U p M D) := by
    intro q
    iterate 1 refine go_s rfl rfl rfl trivial ?_
    exact go_r rfl rfl rfl (Or.inl rfl) ⟨by rw [b01_f q], rfl⟩
  iterate 2 refine go_s rfl rfl rfl trivial ?_
  refine go_if (fun hc => no fun q => Int32.not_lt.mpr q.1 hc) (fun hc => ?_)
  obtain ⟨t, ht, rfl⟩ := nI_of hc
  iterate 3 refine go_s rfl rfl rfl trivial ?_
  rw [a1]
  iterate 1 refine go_s rfl rfl rfl trivial ?_
  refine go_if (fun hc1 => no fun q => Int32.not_lt.mpr hc1 q.2.1) (fun hc1 => ?_)
  have htn : t < xnt X := Nat.lt_of_not_le fun q => hc1 ((nI_leI (by omega) (by omega)).mpr q)
  have ct : (nI t).toNatClampNeg = t := nI_clamp ht
  iterate 3 refine go_s rfl rfl rfl trivial ?_
  refine go_if (fun hc2 => absurd hc2 (nI_ge (a := t) (b := 40) (by omega) (by omega))) (fun _ => ?_)
  iterate 3 refine go_s rfl rfl rfl trivial ?_
  refine go_s rfl rfl rfl ?_ ?_
  · exact vp_in_nI (by omega) (by omega)
  simp only [ct, (a7 t htn).2.1]
  iterate 1 refine go_s rfl rfl rfl trivial ?_
  refine go_if (fun hc3 => ?_) (fun hc3 => ?_)
  · refine no fun q => hc3 ?_
    rw [b01_f]
    have := q.2.2
    rw [ct] at this
    exact this
  · have hq : ¬ xlg X t = none := b01_eq0.mp (Classical.not_not.mp hc3)
    iterate 2 refine go_s rfl rfl rfl trivial ?_
    exact go_r rfl rfl rfl (Or.inr rfl) ⟨by rw [b01_t (isT_of a3 htn hq)], rfl⟩
theorem c_has_n (h : cXs X J N G) {t : Nat} (ht : t < 1000) : Do m_Sh_has [.ref 25, .int (nI t)] (hC L xs J N G U p M D) (fun r h' => r = some (.int (b01 (hereT X t))) ∧ h' = hC L xs J N G U p M D) := by
  rw [← b01_iff (isT_n ht h.2.2.1)]
  exact c_Sh_has h (nI t)
theorem c_isIn (h : cXs X J N G) {t l : Nat} {f : Int32} (ht : t < 1000) (hl : l < 3) (hf : f < 0 ↔ f = -1) : Do m_Sh_isIn [.ref 25, .int (nI t), .int (nI l), .int f] (hC L xs J N G U p M D) (fun r h' => r = some (.int (b01 (t < xnt X ∧ askedP X l t f))) ∧ h' = hC L xs J N G U p M D) := by
  have ct : (nI t).toNatClampNeg = t := nI_clamp (by omega)
  have a3 := h.2.2.1
  have a7 := h.2.2.2.2.2.2
  have no : ¬ (t < xnt X ∧ askedP X l t f) → Go m_Sh_isIn 37 [some (.ref 25), some (.int (nI t)), some (.int (nI l)), some (.int f)] [] (hC L xs J N G U p M D) (fun r h' => r = some (.int (b01 (t < xnt X ∧ askedP X l t f))) ∧ h' = hC L xs J N G U p M D) := by
    intro q
    iterate 1 refine go_s rfl rfl rfl trivial ?_
    exact go_r rfl rfl rfl (Or.inl rfl) ⟨by rw [b01_f q], rfl⟩
  have yes : (t < xnt X ∧ askedP X l t f) → Go m_Sh_isIn 33 [some (.ref 25), some (.int (nI t)), some (.int (nI l)), some (.int f)] [] (hC L xs J N G U p M D) (fun r h' => r = some (.int (b01 (t < xnt X ∧ askedP X l t f))) ∧ h' = hC L xs J N G U p M D) := by
    intro q
    iterate 2 refine go_s rfl rfl rfl trivial ?_
    exact go_r rfl rfl rfl (Or.inr rfl) ⟨by rw [b01_t q], rfl⟩
  iterate 2 refine go_s rfl rfl rfl trivial ?_
  refine go_c rfl rfl rfl (c_has_n h ht) ?_
  rintro r h1 ⟨rfl, rfl⟩
  iterate 1 refine go_s rfl rfl rfl trivial ?_
  refine go_if (fun hc => no fun q => b01_eq0.mp hc (hereT_of q.1 q.2.1)) (fun hc => ?_)
  have hq : hereT X t := Classical.not_not.mp fun q => hc (b01_f q)
  obtain ⟨h1, h2⟩ := hq
  obtain ⟨l', hl'⟩ : ∃ l', xlg X t = some l' := by
    cases e : xlg X t with
    | none => exact absurd e h2
    | some l' => exact ⟨l', rfl⟩
  obtain ⟨k1, k2, k3, k4, k5, k6, k7⟩ := a7 t h1
  obtain ⟨l3, n3⟩ := k1 l' hl'
  iterate 3 refine go_s rfl rfl rfl trivial ?_
  refine go_s rfl rfl rfl ?_ ?_
  · exact vp_in_nI (by omega) (by omega)
  simp only [ct, n3]
  iterate 2 refine go_s rfl rfl rfl trivial ?_
  refine go_if (fun hc1 => no fun q => ?_) (fun hc1 => ?_)
  · have := q.2.1
    rw [hl'] at this
    cases this
    exact hc1 rfl
  · have el : l' = l := nI_inj (by omega) (by omega) (Classical.not_not.mp hc1)
    subst el
    iterate 3 refine go_s rfl rfl rfl trivial ?_
    refine go_if (fun hc2 => yes ⟨h1, hl', Or.inl (hf.mpr hc2)⟩) (fun hc2 => ?_)
    iterate 3 refine go_s rfl rfl rfl trivial ?_
    refine go_s rfl rfl rfl ?_ ?_
    · exact vp_in_nI (by omega) (by omega)
    simp only [ct, k3]
    iterate 2 refine go_s rfl rfl rfl trivial ?_
    refine go_if (fun hc3 => no fun q => q.2.2.elim (fun g => hc2 (hf.mp g)) (fun g => hc3 g)) (fun hc3 => ?_)
    exact yes ⟨h1, hl', Or.inr (Classical.not_not.mp hc3)⟩
theorem ask_m1 {X : tx_X} {l t : Nat} : (t < xnt X ∧ askedP X l t (-1)) ↔ (t < xnt X ∧ xlg X t = some l) := ⟨fun q => ⟨q.1, q.2.1⟩, fun q => ⟨q.1, q.2, Or.inl (by decide)⟩⟩
theorem c_isIn1 (h : cXs X J N G) {t l : Nat} (ht : t < 1000) (hl : l < 3) : Do m_Sh_isIn [.ref 25, .int (nI t), .int (nI l), .int (-1)] (hC L xs J N G U p M D) (fun r h' => r = some (.int (b01 (t < xnt X ∧ xlg X t = some l))) ∧ h' = hC L xs J N G U p M D) := by
  rw [← b01_iff ask_m1]
  exact c_isIn h ht hl (by decide)
theorem c_firstOf (h : cXs X J N G) {t : Nat} (ht : t < 1000) : Do m_Sh_firstOf [.ref 25, .int (nI t)] (hC L xs J N G U p M D) (fun r h' => r = some (.int (nI (fsT X t))) ∧ h' = hC L xs J N G U p M D) := by
  have ct : (nI t).toNatClampNeg = t := nI_clamp (by omega)
  iterate 2 refine go_s rfl rfl rfl trivial ?_
  refine go_c rfl rfl rfl (c_has_n h ht) ?_
  rintro r h1 ⟨rfl, rfl⟩
  iterate 1 refine go_s rfl rfl rfl trivial ?_
  refine go_if (fun hc => ?_) (fun hc => ?_)
  · iterate 1 refine go_s rfl rfl rfl trivial ?_
    exact go_r rfl rfl rfl trivial ⟨by rw [fsT, ifp_f (b01_eq0.mp hc)]; rfl, rfl⟩
  · have hq : hereT X t := Classical.not_not.mp fun q => hc (b01_f q)
    have a3 := h.2.2.1
    have htn := hq.1
    iterate 3 refine go_s rfl rfl rfl trivial ?_
    refine go_s rfl rfl rfl ?_ ?_
    · exact vp_in_nI (by omega) (by omega)
    iterate 1 refine go_s rfl rfl rfl trivial ?_
    exact go_r rfl rfl rfl trivial ⟨by rw [ct, (h.2.2.2.2.2.2 t htn).2.2.2.2.2.1, fsT, ifp_t hq], rfl⟩
theorem cXs.next (h : cXs X J N G) {t : Nat} (ht : t < xnt X) : N 6 (t + 1) = nI (stX X (t + 1)) := by
  by_cases e : t + 1 = xnt X
  · rw [e]; exact h.2.2.2.2.1
  · exact (h.2.2.2.2.2.2 (t + 1) (by omega)).2.2.2.2.2.1
theorem c_endOf (h : cXs X J N G) {t : Nat} (ht : t < 1000) : Do m_Sh_endOf [.ref 25, .int (nI t)] (hC L xs J N G U p M D) (fun r h' => r = some (.int (nI (enT X t))) ∧ h' = hC L xs J N G U p M D) := by
  have ct : (nI (t + 1)).toNatClampNeg = t + 1 := nI_clamp (by omega)
  iterate 2 refine go_s rfl rfl rfl trivial ?_
  refine go_c rfl rfl rfl (c_has_n h ht) ?_
  rintro r h1 ⟨rfl, rfl⟩
  iterate 1 refine go_s rfl rfl rfl trivial ?_
  refine go_if (fun hc => ?_) (fun hc => ?_)
  · iterate 1 refine go_s rfl rfl rfl trivial ?_
    exact go_r rfl rfl rfl trivial ⟨by rw [enT, ifp_f (b01_eq0.mp hc)]; rfl, rfl⟩
  · have hq : hereT X t := Classical.not_not.mp fun q => hc (b01_f q)
    have a3 := h.2.2.1
    have a4 := h.2.2.2.1
    have htn := hq.1
    have hle := stX_le X (t := t + 1) (n := xnt X) htn
    iterate 5 refine go_s rfl rfl rfl trivial ?_
    rw [nI_1]
    refine go_s rfl rfl rfl ?_ ?_
    · exact vp_in_nI (by omega) (by omega)
    simp only [ct, h.next htn]
    iterate 2 refine go_s rfl rfl rfl trivial ?_
    have g4 : ¬ (400 : Int32) < nI (stX X (t + 1)) := fun q => absurd ((nI_ltI (a := 400) (b := stX X (t + 1)) (by omega) (by omega)).mp q) (by omega)
    rw [if_neg g4]
    iterate 1 refine go_s rfl rfl rfl trivial ?_
    exact go_r rfl rfl rfl trivial ⟨by rw [enT, ifp_t hq], rfl⟩
theorem c_countTexts (h : cXs X J N G) : Do m_Sh_countTexts [.ref 25] (hC L xs J N G U p M D) (fun r h' => r = some (.int (nI (xhere X))) ∧ h' = hC L xs J N G U p M D) := by
  have a3 := h.2.2.1
  have key : ∀ (d t : Nat), xnt X = t + d → Go m_Sh_countTexts 4 [some (.ref 25), some (.int (nI (cnt (fun t => xlg X t ≠ none) t))), some (.int (nI t))] [] (hC L xs J N G U p M D) (fun r h' => r = some (.int (nI (xhere X))) ∧ h' = hC L xs J N G U p M D) := by
    intro d
    induction d with
    | zero =>
      intro t ht
      have et : t = xnt X := by omega
      subst et
      iterate 3 refine go_s rfl rfl rfl trivial ?_
      rw [h.1]
      iterate 1 refine go_s rfl rfl rfl trivial ?_
      refine go_if (fun _ => ?_) (fun hc => absurd (Int32.le_refl _) hc)
      iterate 1 refine go_s rfl rfl rfl trivial ?_
      exact go_r rfl rfl rfl trivial ⟨rfl, rfl⟩
    | succ d ih =>
      intro t ht
      iterate 3 refine go_s rfl rfl rfl trivial ?_
      rw [h.1]
      iterate 1 refine go_s rfl rfl rfl trivial ?_
      refine go_if (fun hc => absurd hc (nI_ge (by omega) (by omega))) (fun _ => ?_)
      iterate 2 refine go_s rfl rfl rfl trivial ?_
      refine go_c rfl rfl rfl (c_has_n h (t := t) (by omega)) ?_
      rintro r h1 ⟨rfl, rfl⟩
      iterate 1 refine go_s rfl rfl rfl trivial ?_
      refine go_if (fun hc => ?_) (fun hc => ?_)
      · have hq : ¬ xlg X t ≠ none := fun q => b01_eq0.mp hc ⟨by omega, q⟩
        iterate 2 refine go_s rfl rfl rfl trivial ?_
        rw [nI_1]
        have := ih (t + 1) (by omega)
        rw [cnt_f hq] at this
        exact this
      · have hq : hereT X t := Classical.not_not.mp fun q => hc (b01_f q)
        iterate 1 refine go_s rfl rfl rfl trivial ?_
        rw [nI_1]
        iterate 2 refine go_s rfl rfl rfl trivial ?_
        rw [nI_1]
        have := ih (t + 1) (by omega)
        rw [cnt_t hq.2] at this
        exact this
  iterate 4 refine go_s rfl rfl rfl trivial ?_
  exact key (xnt X) 0 (by omega)
theorem c_takeAway (h : cXs X J N G) (x : Int32) : Do m_Sh_takeAway [.ref 25, .int x] (hC L xs J N G U p M D) (fun r h' => (¬ isT X x ∧ r = some (.int 0) ∧ h' = hC L xs J N G U p M D) ∨ (isT X x ∧ r = some (.int 1) ∧ ∃ N', h' = hC L xs J N' G U p M D ∧ cXs (xrm X x.toNatClampNeg) J N' G ∧ ∀ i, i ≠ 5 → N' i = N i)) := by
  iterate 2 refine go_s rfl rfl rfl trivial ?_
  refine go_c rfl rfl rfl (c_Sh_has h x) ?_
  rintro r h1 ⟨rfl, rfl⟩
  iterate 1 refine go_s rfl rfl rfl trivial ?_
  refine go_if (fun hc => ?_) (fun hc => ?_)
  · have hq : isT X x := Classical.not_not.mp fun q => hc (b01_f q)
    obtain ⟨t, ht, rfl, hl⟩ := isT_nat hq h.2.2.1
    have a3 := h.2.2.1
    have ct : (nI t).toNatClampNeg = t := nI_clamp (by omega)
    iterate 4 refine go_s rfl rfl rfl trivial ?_
    refine go_s rfl rfl rfl ?_ ?_
    · exact vp_in_nI (by omega) (by omega)
    simp only [ct]
    iterate 1 refine go_s rfl rfl rfl trivial ?_
    refine go_r rfl rfl rfl (Or.inr rfl) (Or.inr ⟨hq, rfl, va_up N 5 (upd (N 5) t 1), rfl, ?_, fun i hi => va_up_ne _ _ hi⟩)
    obtain ⟨a1, a2, a3, a4, a5, a6, a7⟩ := h
    refine ⟨a1, a2, a3, a4, a5, fun s hs => ?_, fun s hs => ?_⟩
    · rw [va_up_self, pk_un (show s ≠ t by have : xnt X ≤ s := hs; omega)]
      exact a6 s hs
    · obtain ⟨k1, k2, k3, k4, k5, k6, k7⟩ := a7 s hs
      refine ⟨fun l hl' => ?_, ?_, k3, k4, k5, k6, k7⟩
      · have hl' : va_up (xlg X) t none s = some l := hl'
        by_cases e : s = t
        · subst e; rw [va_up_self] at hl'; cases hl'
        · rw [va_up_ne _ _ e] at hl'; exact k1 l hl'
      · show va_up N 5 (upd (N 5) t 1) 5 s = b01 (va_up (xlg X) t none s = none)
        rw [va_up_self]
        by_cases e : s = t
        · subst e; rw [pk_us, va_up_self, b01_t rfl]
        · rw [pk_un e, va_up_ne _ _ e]; exact k2
  · have hq : ¬ isT X x := b01_eq0.mp (Classical.not_not.mp hc)
    iterate 1 refine go_s rfl rfl rfl trivial ?_
    exact go_r rfl rfl rfl (Or.inl rfl) (Or.inl ⟨hq, rfl, rfl⟩)
def plQ (X : tx_X) (x q : Int32) : Prop := isT X x ∧ 0 ≤ q ∧ q < nI (xcn X x.toNatClampNeg)
theorem c_hasPlace (h : cXs X J N G) (x q : Int32) : Do m_Sh_hasPlace [.ref 25, .int x, .int q] (hC L xs J N G U p M D) (fun r h' => r = some (.int (b01 (plQ X x q))) ∧ h' = hC L xs J N G U p M D) := by
  have no : ¬ plQ X x q → Go m_Sh_hasPlace 31 [some (.ref 25), some (.int x), some (.int q)] [] (hC L xs J N G U p M D) (fun r h' => r = some (.int (b01 (plQ X x q))) ∧ h' = hC L xs J N G U p M D) := by
    intro g
    iterate 1 refine go_s rfl rfl rfl trivial ?_
    exact go_r rfl rfl rfl (Or.inl rfl) ⟨by rw [b01_f g], rfl⟩
  iterate 2 refine go_s rfl rfl rfl trivial ?_
  refine go_c rfl rfl rfl (c_Sh_has h x) ?_
  rintro r h1 ⟨rfl, rfl⟩
  iterate 1 refine go_s rfl rfl rfl trivial ?_
  refine go_if (fun hc => no fun g => b01_eq0.mp hc g.1) (fun hc => ?_)
  have hq : isT X x := Classical.not_not.mp fun q => hc (b01_f q)
  obtain ⟨t, ht, rfl, hl⟩ := isT_nat hq h.2.2.1
  have a3 := h.2.2.1
  have a4 := h.2.2.2.1
  have ct : (nI t).toNatClampNeg = t := nI_clamp (by omega)
  have hT : hereT X t := ⟨ht, hl⟩
  have hle := stX_le X (t := t + 1) (n := xnt X) ht
  have hs := stX_s X t
  iterate 2 refine go_s rfl rfl rfl trivial ?_
  refine go_if (fun hc1 => no fun g => Int32.not_lt.mpr g.2.1 hc1) (fun hc1 => ?_)
  iterate 3 refine go_s rfl rfl rfl trivial ?_
  refine go_c rfl rfl rfl (c_endOf h (t := t) (by omega)) ?_
  rintro r h1 ⟨rfl, rfl⟩
  iterate 2 refine go_s rfl rfl rfl trivial ?_
  refine go_c rfl rfl rfl (c_firstOf h (t := t) (by omega)) ?_
  rintro r h1 ⟨rfl, rfl⟩
  rw [enT, ifp_t hT, fsT, ifp_t hT]
  iterate 1 refine go_s rfl rfl rfl trivial ?_
  rw [pk_sub (by omega), show stX X (t + 1) - stX X t = xcn X t by omega]
  iterate 1 refine go_s rfl rfl rfl trivial ?_
  refine go_if (fun hc2 => no fun g => ?_) (fun hc2 => ?_)
  · have := g.2.2
    rw [ct] at this
    exact Int32.not_lt.mpr hc2 this
  · iterate 2 refine go_s rfl rfl rfl trivial ?_
    refine go_r rfl rfl rfl (Or.inr rfl) ⟨?_, rfl⟩
    rw [b01_t (P := plQ X (nI t) q) ⟨hq, Int32.not_lt.mp hc1, by rw [ct]; exact Int32.not_le.mp hc2⟩]
theorem plQ_nat {x q : Int32} (h40 : xnt X ≤ 40) (hs : cXs X J N G) (h : plQ X x q) : ∃ t j, t < xnt X ∧ x = nI t ∧ hereT X t ∧ j < xcn X t ∧ q = nI j := by
  obtain ⟨h1, h2, h3⟩ := h
  obtain ⟨t, ht, rfl, hl⟩ := isT_nat h1 h40
  obtain ⟨j, hj, rfl⟩ := nI_of (Int32.not_lt.mpr h2)
  rw [nI_clamp (by omega)] at h3
  have := (hs.2.2.2.2.2.2 t ht).2.2.2.2.1
  exact ⟨t, j, ht, rfl, ⟨ht, hl⟩, (nI_ltI hj (by omega)).mp h3, rfl⟩
theorem c_startOf (h : cXs X J N G) {x q : Int32} (hq : plQ X x q) : Do m_Sh_startOf [.ref 25, .int x, .int q] (hC L xs J N G U p M D) (fun r h' => r = some (.int (nI (xfr X x.toNatClampNeg q.toNatClampNeg))) ∧ h' = hC L xs J N G U p M D) := by
  have a3 := h.2.2.1
  have a4 := h.2.2.2.1
  iterate 3 refine go_s rfl rfl rfl trivial ?_
  refine go_c rfl rfl rfl (c_hasPlace h x q) ?_
  rintro r h1 ⟨rfl, rfl⟩
  rw [b01_t hq]
  iterate 1 refine go_s rfl rfl rfl trivial ?_
  refine go_if (fun hc => absurd hc (by decide)) (fun _ => ?_)
  obtain ⟨t, j, ht, rfl, hT, hj, rfl⟩ := plQ_nat a3 h hq
  have hle := stX_le X (t := t + 1) (n := xnt X) ht
  have hs := stX_s X t
  obtain ⟨k1, k2, k3, k4, k5, k6, k7⟩ := h.2.2.2.2.2.2 t ht
  have cj : (nI j).toNatClampNeg = j := nI_clamp (by omega)
  have ct : (nI t).toNatClampNeg = t := nI_clamp (by omega)
  have cs : (nI (stX X t + j)).toNatClampNeg = stX X t + j := nI_clamp (by omega)
  iterate 4 refine go_s rfl rfl rfl trivial ?_
  refine go_c rfl rfl rfl (c_firstOf h (t := t) (by omega)) ?_
  rintro r h1 ⟨rfl, rfl⟩
  rw [fsT, ifp_t hT]
  iterate 2 refine go_s rfl rfl rfl trivial ?_
  rw [nI_add]
  refine go_s rfl rfl rfl ?_ ?_
  · exact vp_in_nI (by omega) (by omega)
  iterate 1 refine go_s rfl rfl rfl trivial ?_
  exact go_r rfl rfl rfl trivial ⟨by rw [cs, (k7 j hj).2.2.1, cj, ct], rfl⟩
theorem c_sizeOf (h : cXs X J N G) {x q : Int32} (hq : plQ X x q) : Do m_Sh_sizeOf [.ref 25, .int x, .int q] (hC L xs J N G U p M D) (fun r h' => r = some (.int (nI (xfu X x.toNatClampNeg q.toNatClampNeg))) ∧ h' = hC L xs J N G U p M D) := by
  have a3 := h.2.2.1
  have a4 := h.2.2.2.1
  iterate 3 refine go_s rfl rfl rfl trivial ?_
  refine go_c rfl rfl rfl (c_hasPlace h x q) ?_
  rintro r h1 ⟨rfl, rfl⟩
  rw [b01_t hq]
  iterate 1 refine go_s rfl rfl rfl trivial ?_
  refine go_if (fun hc => absurd hc (by decide)) (fun _ => ?_)
  obtain ⟨t, j, ht, rfl, hT, hj, rfl⟩ := plQ_nat a3 h hq
  have hle := stX_le X (t := t + 1) (n := xnt X) ht
  have hs := stX_s X t
  obtain ⟨k1, k2, k3, k4, k5, k6, k7⟩ := h.2.2.2.2.2.2 t ht
  have cj : (nI j).toNatClampNeg = j := nI_clamp (by omega)
  have ct : (nI t).toNatClampNeg = t := nI_clamp (by omega)
  have cs : (nI (stX X t + j)).toNatClampNeg = stX X t + j := nI_clamp (by omega)
  iterate 4 refine go_s rfl rfl rfl trivial ?_
  refine go_c rfl rfl rfl (c_firstOf h (t := t) (by omega)) ?_
  rintro r h1 ⟨rfl, rfl⟩
  rw [fsT, ifp_t hT]
  iterate 2 refine go_s rfl rfl rfl trivial ?_
  rw [nI_add]
  refine go_s rfl rfl rfl ?_ ?_
  · exact vp_in_nI (by omega) (by omega)
  iterate 1 refine go_s rfl rfl rfl trivial ?_
  exact go_r rfl rfl rfl trivial ⟨by rw [cs, (k7 j hj).2.2.2, cj, ct], rfl⟩
end SHELF
