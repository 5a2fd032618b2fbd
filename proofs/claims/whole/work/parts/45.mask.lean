/-! ===== the reference: ask ===== -/
section MASK3
variable {T : Nat → am_C} {D : List am_C} {E : Nat → List Nat → Option (List Nat)} {K : Option Value → List am_C → Prop}
/-- the state while texts are gone through: A what was answered so far -/
def akS (Z : tx_Z) (Q : tx_Q) (l : Nat) (A : tx_A) (I : Nat → Int32) (B : Nat → Nat → Int32) (S : Nat → Int64) (μ : Nat → List Nat) : Prop := tx_m (((zP Z).1, 0), zN Z, zX Z, A, zL Z, zS Z) I B S μ ∧ qS (zX Z) (nE (zN Z)) Q I B μ ∧ trm (trF (nE (zN Z)) l Q Q.1) μ
theorem akS.keepc {Z : tx_Z} {Q : tx_Q} {l k : Nat} {A : tx_A} {I : Nat → Int32} {B B' : Nat → Nat → Int32} {S : Nat → Int64} {μ μ' : Nat → List Nat} (h : akS Z Q l A I B S μ) (h48 : Q.1 ≤ 48) (hs : wsc k B μ B' μ') (hk : 6032 ≤ k) : akS Z Q l A I B' S μ' := by
  obtain ⟨h1, h2, h3⟩ := h
  have hle := trF_le (nE (zN Z)) l Q Q.1
  exact ⟨h1.keepc hs.1 hs.2.1 (fun a ha => hs.2.2 a (by omega)), h2.keepc hs (by omega), fun j hj => (hs.2.2 _ (by omega)).trans (h3 j hj)⟩
theorem l_ak136 {I : Nat → Int32} {l0 f0 r0 n0 t0 i0 : Int32} {s : Int64} {A : tx_A} (hA : A.1 < 40) : ∀ (to : Nat) (X8 : Option Value) (B : Nat → Nat → Int32) (S : Nat → Int64), to ≤ A.1 → gap (fun i => nI (A.2.1 i)) (B 16) to A.1 → gap A.2.2 S to A.1 → psF (fun j => A.2.2 j < s) to = psF (fun j => A.2.2 j < s) A.1 →
    (∀ (B' : Nat → Nat → Int32) (S' : Nat → Int64), (∀ i, i ≠ 16 → B' i = B i) → gap (fun i => nI (A.2.1 i)) (B' 16) (psF (fun j => A.2.2 j < s) A.1) A.1 → gap A.2.2 S' (psF (fun j => A.2.2 j < s) A.1) A.1 →
      Go m_Mo_ask 194 [some (.ref 48), some (.int l0), some (.int f0), some (.int r0), some (.int n0), some (.int t0), some (.int i0), some (.long s), none, some (.int (nI (psF (fun j => A.2.2 j < s) A.1)))] [] (hM T I B' S' D) K) →
    Go m_Mo_ask 136 [some (.ref 48), some (.int l0), some (.int f0), some (.int r0), some (.int n0), some (.int t0), some (.int i0), some (.long s), none, some (.int (nI to))] [] (hM T I B S D) K := by
  intro to
  induction to with
  | zero =>
    intro X8 B S hto g1 g2 hp kk
    have e0 : psF (fun j => A.2.2 j < s) 0 = 0 := rfl
    rw [e0] at hp
    rw [← hp] at kk
    iterate 2 refine go_s rfl rfl rfl trivial ?_
    exact go_if (fun _ => kk B S (fun _ _ => rfl) g1 g2) (fun hc => absurd (by decide) hc)
  | succ n ih =>
    intro X8 B S hto g1 g2 hp kk
    have cn : (nI n).toNatClampNeg = n := nI_clamp (by omega)
    have cn1 : (nI (n + 1)).toNatClampNeg = n + 1 := nI_clamp (by omega)
    have eS : S n = A.2.2 n := g2.1 n (by omega)
    iterate 2 refine go_s rfl rfl rfl trivial ?_
    refine go_if (fun hc => absurd hc (nI_nle (by omega) (by omega))) (fun _ => ?_)
    iterate 5 refine go_s rfl rfl rfl trivial ?_
    rw [nI_pred]
    refine go_s rfl rfl rfl ?_ ?_
    · exact vp_in_nI (by omega) (by omega)
    simp only [cn]
    iterate 3 refine go_s rfl rfl rfl trivial ?_
    refine go_if (fun hc => ?_) (fun hc => ?_)
    · have hge : s ≤ A.2.2 n := by rw [← eS]; exact (lg_cmp_ge _ _).mp hc
      have hno : ¬ A.2.2 n < s := Int64.not_lt.mpr hge
      have ep : psF (fun j => A.2.2 j < s) (n + 1) = n + 1 := by rw [psF, ifp_f hno]
      rw [ep] at hp
      rw [← hp] at kk
      exact kk B S (fun _ _ => rfl) g1 g2
    · have hlt : A.2.2 n < s := by
        rw [← eS]
        exact Int64.not_le.mp fun q => hc ((lg_cmp_ge _ _).mpr q)
      have ep : psF (fun j => A.2.2 j < s) (n + 1) = psF (fun j => A.2.2 j < s) n := by rw [psF, ifp_t hlt]
      iterate 8 refine go_s rfl rfl rfl trivial ?_
      rw [nI_pred]
      refine go_s rfl rfl rfl ?_ ?_
      · exact vp_in_nI (by omega) (by omega)
      simp only [cn]
      refine go_s rfl rfl rfl ?_ ?_
      · exact vp_in_nI (by omega) (by omega)
      simp only [cn1]
      iterate 8 refine go_s rfl rfl rfl trivial ?_
      rw [nI_pred]
      refine go_s rfl rfl rfl ?_ ?_
      · exact vp_in_nI (by omega) (by omega)
      simp only [cn]
      refine go_s rfl rfl rfl ?_ ?_
      · exact vp_in_nI (by omega) (by omega)
      simp only [cn1]
      iterate 2 refine go_s rfl rfl rfl trivial ?_
      rw [pk_m1]
      refine ih X8 (va_up B 16 (upd (B 16) (n + 1) (B 16 n))) (vp_updL S (n + 1) (S n)) (by omega) ?_ ?_ (by rw [← ep]; exact hp) (fun B' S' hB hg1 hg2 => ?_)
      · refine g1.step ?_ (fun i hi => ?_)
        · rw [va_up_self, pk_us]
        · rw [va_up_self, pk_un hi]
      · exact g2.step pk_uLs (fun i hi => pk_uLn hi)
      · exact kk B' S' (fun i hi => (hB i hi).trans (va_up_ne _ _ hi)) hg1 hg2
theorem l_ak83z {H : List am_C} {l0 f0 r0 n0 t0 k : Int32} {X8 X9 : Option Value} (kk : Go m_Mo_ask 110 [some (.ref 48), some (.int l0), some (.int f0), some (.int r0), some (.int n0), some (.int t0), some (.int 1), some (.int k), X8, X9] [] H K) :
    Go m_Mo_ask 83 [some (.ref 48), some (.int l0), some (.int f0), some (.int r0), some (.int n0), some (.int t0), some (.int 1), some (.int k), X8, X9] [] H K := by
  iterate 3 refine go_s rfl rfl rfl trivial ?_
  refine go_if (fun _ => kk) (fun _ => ?_)
  iterate 2 refine go_s rfl rfl rfl trivial ?_
  exact go_if (fun _ => kk) (fun hc => absurd (by decide) hc)
theorem l_ak83 {Z : tx_Z} {Q : tx_Q} {l t rows : Nat} {A : tx_A} {I : Nat → Int32} {S : Nat → Int64} {l0 f0 n0 : Int32} (hf : qfit Q) (h48 : Q.1 ≤ 48) (ht : t < xnt (zX Z)) (hl : xlg (zX Z) t = some l) (hr : rows < 1000) : ∀ (d k : Nat) (X8 X9 : Option Value) (B : Nat → Nat → Int32) (μ : Nat → List Nat), akS Z Q l A I B S μ → rows = k + d → (¬ ∃ r, r < k ∧ rwQ (nE (zN Z)) (zX Z) l t Q r) →
    (∀ (g k' : Int32) (B' : Nat → Nat → Int32) (μ' : Nat → List Nat), akS Z Q l A I B' S μ' → ((g = 1 ∧ ∃ r, r < rows ∧ rwQ (nE (zN Z)) (zX Z) l t Q r) ∨ (g = 0 ∧ ¬ ∃ r, r < rows ∧ rwQ (nE (zN Z)) (zX Z) l t Q r)) → Go m_Mo_ask 110 [some (.ref 48), some (.int l0), some (.int f0), some (.int (nI rows)), some (.int n0), some (.int (nI t)), some (.int g), some (.int k'), X8, X9] [] (hM T I B' S D) K) →
    Go m_Mo_ask 83 [some (.ref 48), some (.int l0), some (.int f0), some (.int (nI rows)), some (.int n0), some (.int (nI t)), some (.int 0), some (.int (nI k)), X8, X9] [] (hM T I B S D) K := by
  intro d
  induction d with
  | zero =>
    intro k X8 X9 B μ hs hk hno kk
    have ek : k = rows := by omega
    subst ek
    iterate 3 refine go_s rfl rfl rfl trivial ?_
    exact go_if (fun _ => kk 0 _ B μ hs (Or.inr ⟨rfl, hno⟩)) (fun hc => absurd (Int32.le_refl _) hc)
  | succ d ih =>
    intro k X8 X9 B μ hs hk hno kk
    iterate 3 refine go_s rfl rfl rfl trivial ?_
    refine go_if (fun hc => absurd hc (nI_ge (by omega) (by omega))) (fun _ => ?_)
    iterate 2 refine go_s rfl rfl rfl trivial ?_
    refine go_if (fun hc => absurd rfl hc) (fun _ => ?_)
    iterate 3 refine go_s rfl rfl rfl trivial ?_
    refine go_c rfl rfl rfl (c_answersRow hs.2.1 hf ht hl (row := k) (by omega)) ?_
    rintro r h0 ⟨rfl, B1, μ1, rfl, hs1⟩
    have hs2 := hs.keepc h48 hs1 (Nat.le_refl _)
    iterate 3 refine go_s rfl rfl rfl trivial ?_
    rw [nI_1]
    by_cases q : rwQ (nE (zN Z)) (zX Z) l t Q k
    · rw [b01_t q]
      exact l_ak83z (kk 1 _ B1 μ1 hs2 (Or.inl ⟨rfl, k, by omega, q⟩))
    · rw [b01_f q]
      refine ih (k + 1) X8 X9 B1 μ1 hs2 (by omega) (fun ⟨r, r1, r2⟩ => ?_) kk
      rcases Nat.lt_or_ge r k with h | h
      · exact hno ⟨r, h, r2⟩
      · rw [show r = k by omega] at r2
        exact q r2
theorem l_ak54 {Z : tx_Z} {Q : tx_Q} {l rows : Nat} {f : Int32} (hf : qfit Q) (h48 : Q.1 ≤ 48) (hl3 : l < 3) (hr : rows < 1000) : ∀ (d t : Nat) (X6 X7 X8 X9 : Option Value) (I : Nat → Int32) (B : Nat → Nat → Int32) (S : Nat → Int64) (μ : Nat → List Nat), akS Z Q l (akF (nE (zN Z)) (zX Z) Q rows l f t) I B S μ → xnt (zX Z) = t + d →
    Go m_Mo_ask 54 [some (.ref 48), some (.int (nI l)), some (.int f), some (.int (nI rows)), some (.int (nI (trF (nE (zN Z)) l Q Q.1).length)), some (.int (nI t)), X6, X7, X8, X9] [] (hM T I B S D) (fun r h' => r = some (.int (nI (akF (nE (zN Z)) (zX Z) Q rows l f (xnt (zX Z))).1)) ∧ ∃ I' B' S' μ', h' = hM T I' B' S' D ∧ tx_m (((zP Z).1, 0), zN Z, zX Z, akF (nE (zN Z)) (zX Z) Q rows l f (xnt (zX Z)), zL Z, zS Z) I' B' S' μ') := by
  intro d
  induction d with
  | zero =>
    intro t X6 X7 X8 X9 I B S μ hs hd
    have x1 : I 1 = nI (xnt (zX Z)) := hs.2.1.2.2.1.1
    have e9 : I 9 = nI (akF (nE (zN Z)) (zX Z) Q rows l f t).1 := hs.1.2.2.2.2.1.1
    have et : t = xnt (zX Z) := by omega
    subst et
    iterate 3 refine go_s rfl rfl rfl trivial ?_
    rw [x1]
    iterate 1 refine go_s rfl rfl rfl trivial ?_
    refine go_if (fun _ => ?_) (fun hc => absurd (Int32.le_refl _) hc)
    iterate 2 refine go_s rfl rfl rfl trivial ?_
    exact go_r rfl rfl rfl trivial ⟨by rw [← e9], I, B, S, μ, rfl, hs.1⟩
  | succ d ih =>
    intro t X6 X7 X8 X9 I B S μ hs hd
    have x1 : I 1 = nI (xnt (zX Z)) := hs.2.1.2.2.1.1
    have x2 : xnt (zX Z) ≤ 40 := hs.2.1.2.2.1.2.1
    have htl := trF_le (nE (zN Z)) l Q Q.1
    have next : ∀ (Y6 Y7 Y8 Y9 : Option Value) (I' : Nat → Int32) (B' : Nat → Nat → Int32) (S' : Nat → Int64) (μ' : Nat → List Nat), akS Z Q l (akF (nE (zN Z)) (zX Z) Q rows l f (t + 1)) I' B' S' μ' → Go m_Mo_ask 222 [some (.ref 48), some (.int (nI l)), some (.int f), some (.int (nI rows)), some (.int (nI (trF (nE (zN Z)) l Q Q.1).length)), some (.int (nI t)), Y6, Y7, Y8, Y9] [] (hM T I' B' S' D) (fun r h' => r = some (.int (nI (akF (nE (zN Z)) (zX Z) Q rows l f (xnt (zX Z))).1)) ∧ ∃ I' B' S' μ', h' = hM T I' B' S' D ∧ tx_m (((zP Z).1, 0), zN Z, zX Z, akF (nE (zN Z)) (zX Z) Q rows l f (xnt (zX Z)), zL Z, zS Z) I' B' S' μ') := by
      intro Y6 Y7 Y8 Y9 I' B' S' μ' hs'
      iterate 2 refine go_s rfl rfl rfl trivial ?_
      rw [nI_1]
      exact ih (t + 1) Y6 Y7 Y8 Y9 I' B' S' μ' hs' (by omega)
    have skip : ¬ (askedP (zX Z) l t f ∧ ∃ r, r < rows ∧ rwQ (nE (zN Z)) (zX Z) l t Q r) → akF (nE (zN Z)) (zX Z) Q rows l f (t + 1) = akF (nE (zN Z)) (zX Z) Q rows l f t := fun q => by rw [akF, ifp_f q]
    iterate 3 refine go_s rfl rfl rfl trivial ?_
    rw [x1]
    iterate 1 refine go_s rfl rfl rfl trivial ?_
    refine go_if (fun hc => absurd hc (nI_ge (by omega) (by omega))) (fun _ => ?_)
    iterate 4 refine go_s rfl rfl rfl trivial ?_
    refine go_c rfl rfl rfl (c_isAsked hs.2.1.2.2.1 (t := t) (by omega) hl3) ?_
    rintro r h0 ⟨rfl, rfl⟩
    iterate 1 refine go_s rfl rfl rfl trivial ?_
    refine go_if (fun hc => ?_) (fun hc => ?_)
    · have ha : askedP (zX Z) l t f := Classical.not_not.mp fun q => hc (b01_f q)
      iterate 4 refine go_s rfl rfl rfl trivial ?_
      refine l_ak83 hf h48 (by omega) ha.1 hr rows 0 X8 X9 B μ hs (by omega) (fun ⟨r, r1, _⟩ => absurd r1 (Nat.not_lt_zero r)) (fun g k' B1 μ1 hs1 hg => ?_)
      iterate 2 refine go_s rfl rfl rfl trivial ?_
      rcases hg with ⟨rfl, hg⟩ | ⟨rfl, hg⟩
      · refine go_if (fun _ => ?_) (fun hc => absurd (by decide) hc)
        have eA : akF (nE (zN Z)) (zX Z) Q rows l f (t + 1) = insA (akF (nE (zN Z)) (zX Z) Q rows l f t) t (scF (nE (zN Z)) (zX Z) l f t (trF (nE (zN Z)) l Q Q.1) (trF (nE (zN Z)) l Q Q.1).length) := by rw [akF, ifp_t ⟨ha, hg⟩]
        have hA40 := akF_le (nE (zN Z)) (zX Z) Q rows l f t
        generalize hAeq : akF (nE (zN Z)) (zX Z) Q rows l f t = A at *
        iterate 5 refine go_s rfl rfl rfl trivial ?_
        refine go_c rfl rfl rfl (c_scoreOf hs1.2.1 hl3 (by omega) ha.1 (L := trF (nE (zN Z)) l Q Q.1) (by omega) hs1.2.2) ?_
        rintro r h0 ⟨rfl, B2, μ2, rfl, hs2⟩
        have hs3 := hs1.keepc h48 hs2 (Nat.le_refl _)
        have e9 : I 9 = nI A.1 := hs3.1.2.2.2.2.1.1
        obtain ⟨z1, z2, z3⟩ := id hs3.1.2.2.2.2.1
        generalize scF (nE (zN Z)) (zX Z) l f t (trF (nE (zN Z)) l Q Q.1) (trF (nE (zN Z)) l Q Q.1).length = s at *
        iterate 3 refine go_s rfl rfl rfl trivial ?_
        rw [e9]
        iterate 1 refine go_s rfl rfl rfl trivial ?_
        have z3' : ∀ i, i < A.1 → B2 16 i = nI (A.2.1 i) ∧ S i = A.2.2 i := z3
        refine l_ak136 (A := A) (s := s) (by omega) A.1 none B2 S (Nat.le_refl _) ⟨fun i hi => (z3' i hi).1, fun i h1 h2 => absurd h1 (by omega)⟩ ⟨fun i hi => (z3' i hi).2, fun i h1 h2 => absurd h1 (by omega)⟩ rfl (fun B3 S3 hB3 g1 g2 => ?_)
        have hp := psF_le (fun j => A.2.2 j < s) A.1
        generalize hpe : psF (fun j => A.2.2 j < s) A.1 = p at *
        have cp : (nI p).toNatClampNeg = p := nI_clamp (by omega)
        iterate 4 refine go_s rfl rfl rfl trivial ?_
        refine go_s rfl rfl rfl ?_ ?_
        · exact vp_in_nI (by omega) (by omega)
        simp only [cp]
        iterate 4 refine go_s rfl rfl rfl trivial ?_
        refine go_s rfl rfl rfl ?_ ?_
        · exact vp_in_nI (by omega) (by omega)
        simp only [cp]
        iterate 3 refine go_s rfl rfl rfl trivial ?_
        rw [e9]
        iterate 2 refine go_s rfl rfl rfl trivial ?_
        rw [nI_1]
        iterate 1 refine go_s rfl rfl rfl trivial ?_
        obtain ⟨h1, h2, h3, h4, h5, h6, h7⟩ := id hs3.1
        have k16 : ∀ i, i ≠ 16 → va_up B3 16 (upd (B3 16) p (nI t)) i = B2 i := fun i hi => (va_up_ne _ _ hi).trans (hB3 i hi)
        refine next _ _ _ _ (va_up I 9 (nI (A.1 + 1))) (va_up B3 16 (upd (B3 16) p (nI t))) (vp_updL S3 p s) μ2 ⟨⟨h1.keep2 (k16 0 (by decide)) (k16 1 (by decide)), h2.keep rfl (k16 2 (by decide)), h3.keep rfl (k16 8 (by decide)) (k16 9 (by decide)) (fun _ _ _ => rfl), h4.keep rfl rfl (fun i a b => k16 i (by omega)) (fun _ _ => rfl), ?_, h6.keep rfl (fun _ _ _ => rfl), h7.keep rfl (k16 18 (by decide))⟩, ?_, hs3.2.2⟩
        · rw [eA]
          refine ⟨va_up_self _ _ _, by show A.1 + 1 ≤ 40; omega, fun i hi => ⟨?_, ?_⟩⟩
          · have := g1.fill (g' := va_up B3 16 (upd (B3 16) p (nI t)) 16) (v := nI t) (by rw [va_up_self, pk_us]) (fun i hi => by rw [va_up_self, pk_un hi]) i hi
            rw [this]
            show inF (fun i => nI (A.2.1 i)) p (nI t) i = nI (inF A.2.1 (psF (fun j => A.2.2 j < s) A.1) t i)
            rw [hpe]
            simp only [inF]
            split
            · rfl
            · split <;> rfl
          · have := g2.fill (g' := vp_updL S3 p s) (v := s) pk_uLs (fun i hi => pk_uLn hi) i hi
            rw [this]
            show inF A.2.2 p s i = inF A.2.2 (psF (fun j => A.2.2 j < s) A.1) s i
            rw [hpe]
        · obtain ⟨y1, y2, y3, ⟨y4, y4b⟩, y5, y6, y7⟩ := hs3.2.1
          refine ⟨y1.keep2 (k16 0 (by decide)) (k16 1 (by decide)), y2.keep rfl (k16 8 (by decide)) (k16 9 (by decide)) (fun _ _ _ => rfl), ?_, ⟨fun i hi => ?_, y4b⟩, y5, y6, y7⟩
          · obtain ⟨u1, u2, u3⟩ := y3
            refine ⟨u1, u2, fun t ht => ?_⟩
            rw [k16 3 (by decide), k16 4 (by decide), k16 5 (by decide)]
            exact u3 t ht
          · rw [k16 12 (by decide), k16 13 (by decide), k16 14 (by decide), k16 15 (by decide)]
            exact y4 i hi
      · refine go_if (fun hc => absurd rfl hc) (fun _ => ?_)
        iterate 1 refine go_s rfl rfl rfl trivial ?_
        exact next _ _ _ _ I B1 S μ1 (by rw [skip (fun q => hg q.2)]; exact hs1)
    · have ha : ¬ askedP (zX Z) l t f := b01_eq0.mp (Classical.not_not.mp hc)
      iterate 1 refine go_s rfl rfl rfl trivial ?_
      exact next _ _ _ _ I B S μ (by rw [skip (fun q => ha q.1)]; exact hs)
theorem c_ask {Z : tx_Z} {I : Nat → Int32} {B : Nat → Nat → Int32} {S : Nat → Int64} {μ : Nat → List Nat} (hZ : tx_m Z I B S μ) (x f : Int32) : Do m_Mo_ask [.ref 48, .int x, .int f] (hM T I B S D) (fun r h' => r = some (.int (spAsk Z x f).1) ∧ ∃ I' B' S' μ', h' = hM T I' B' S' D ∧ tx_m (spAsk Z x f).2 I' B' S' μ') := by
  have bad : ¬ (isL x ∧ -1 ≤ f ∧ f < 4) → Go m_Mo_ask 17 [some (.ref 48), some (.int x), some (.int f), none, none, none, none, none, none, none] [] (hM T I B S D) (fun r h' => r = some (.int (spAsk Z x f).1) ∧ ∃ I' B' S' μ', h' = hM T I' B' S' D ∧ tx_m (spAsk Z x f).2 I' B' S' μ') := by
    intro q
    rw [spAsk, ifp_f q]
    iterate 1 refine go_s rfl rfl rfl trivial ?_
    exact go_r rfl rfl rfl trivial ⟨rfl, I, B, S, μ, rfl, hZ⟩
  obtain ⟨h1, h2, h3, h4, h5, h6, h7⟩ := id hZ
  iterate 1 refine go_s rfl rfl rfl trivial ?_
  refine go_c rfl rfl rfl (c_isLanguage _ x) ?_
  rintro r h0 ⟨rfl, rfl⟩
  iterate 1 refine go_s rfl rfl rfl trivial ?_
  refine go_if (fun hc => bad fun q => b01_eq0.mp hc q.1) (fun hc => ?_)
  have hq : isL x := Classical.not_not.mp fun q => hc (b01_f q)
  iterate 3 refine go_s rfl rfl rfl trivial ?_
  refine go_if (fun hc1 => bad fun q => Int32.not_lt.mpr q.2.1 hc1) (fun hc1 => ?_)
  iterate 3 refine go_s rfl rfl rfl trivial ?_
  refine go_if (fun hc2 => ?_) (fun hc2 => bad fun q => hc2 q.2.2)
  obtain ⟨l, hl, rfl⟩ := isL_nat hq
  have cl : (nI l).toNatClampNeg = l := nI_clamp (by omega)
  rw [spAsk, ifp_t ⟨hq, Int32.not_lt.mp hc1, hc2⟩, cl]
  iterate 1 refine go_s rfl rfl rfl trivial ?_
  refine go_c rfl rfl rfl (c_readQuestion h2 h1) ?_
  rintro r h0 ⟨I1, B1, μ1, rfl, ⟨I2, rfl, hfr⟩, hz⟩
  obtain ⟨fr1, fr2, fr3, fr4⟩ := hfr
  have kI : ∀ i, i ≠ 0 → i ≠ 5 → i ≠ 6 → i ≠ 7 → i ≠ 8 → va_up I2 0 0 i = I i := fun i a b c d e => (va_up_ne _ _ a).trans (fr1 i b c d e)
  have hZ0 : tx_m (z0 Z) (va_up I2 0 0) B1 S μ1 := ⟨fr3, ⟨rfl, by show 0 ≤ 96; omega, fun j hj => absurd hj (Nat.not_lt_zero j)⟩, h3.keep (kI 3 (by decide) (by decide) (by decide) (by decide) (by decide)) (fr2 8 (by decide) (by decide)) (fr2 9 (by decide) (by decide)) (fun a _ b => fr4 a (by omega)), h4.keep (kI 1 (by decide) (by decide) (by decide) (by decide) (by decide)) (kI 2 (by decide) (by decide) (by decide) (by decide) (by decide)) (fun i a b => fr2 i (by omega) (by omega)) (fun a b => fr4 a (by omega)), h5.keep (kI 9 (by decide) (by decide) (by decide) (by decide) (by decide)) (fr2 16 (by decide) (by decide)), h6.keep (kI 10 (by decide) (by decide) (by decide) (by decide) (by decide)) (fun a b c => fr4 a (by omega)), h7.keep (kI 11 (by decide) (by decide) (by decide) (by decide) (by decide)) (fr2 18 (by decide) (by decide))⟩
  cases hqu : quF (zP Z) 97 0 0 true q00 with
  | inl g =>
    rw [hqu] at hz
    obtain ⟨k8, kg, v, rfl⟩ := hz
    iterate 3 refine go_s rfl rfl rfl trivial ?_
    rw [k8]
    iterate 1 refine go_s rfl rfl rfl trivial ?_
    refine go_if (fun hc3 => absurd hc3 (nI_pos (by omega))) (fun _ => ?_)
    iterate 3 refine go_s rfl rfl rfl trivial ?_
    rw [k8]
    iterate 1 refine go_s rfl rfl rfl trivial ?_
    exact go_r rfl rfl rfl trivial ⟨rfl, va_up I2 0 0, B1, S, μ1, rfl, hZ0⟩
  | inr y =>
    rw [hqu] at hz
    obtain ⟨k8, rfl, k5, k96, k97, k48, kq⟩ := hz
    have hinv := quF_inv hqu
    have hfit := hinv.fit k97
    have h48 : y.1.1 ≤ 48 := Nat.le_trans hinv.2.1 k48
    iterate 3 refine go_s rfl rfl rfl trivial ?_
    rw [k8]
    iterate 1 refine go_s rfl rfl rfl trivial ?_
    refine go_if (fun _ => ?_) (fun hc3 => absurd (by decide) hc3)
    obtain ⟨n1, n2, n3, n4, n5, n6, n7⟩ := id hZ0
    have hqs : qS (zX Z) (nE (zN Z)) y.1 (va_up (va_up I2 0 0) 9 0) B1 μ1 := ⟨fr3, n3.env.keep rfl rfl rfl (fun _ _ _ => rfl), ⟨n4.1.1, n4.1.2⟩, kq, k96, k48, k5⟩
    iterate 5 refine go_s rfl rfl rfl trivial ?_
    change Go m_Mo_ask 46 _ _ (hM T (va_up (va_up I2 0 0) 9 0) B1 S D) _
    refine go_c rfl rfl rfl (c_countStems hqs hfit hl h48) ?_
    rintro r h0 ⟨rfl, B3, μ3, rfl, hs3, ht3⟩
    iterate 3 refine go_s rfl rfl rfl trivial ?_
    refine l_ak54 (f := f) hfit h48 hl (by omega) (xnt (zX Z)) 0 none none none none (va_up (va_up I2 0 0) 9 0) B3 S μ3 ⟨⟨hs3.2.1, n2.keep rfl (hs3.1 2 (by decide)), n3.keep rfl (hs3.1 8 (by decide)) (hs3.1 9 (by decide)) (fun a _ b => hs3.2.2 a (by omega)), n4.keep rfl rfl (fun i a b => hs3.1 i (by omega)) (fun a b => hs3.2.2 a (by omega)), ⟨rfl, by show 0 ≤ 40; omega, fun i hi => absurd hi (Nat.not_lt_zero i)⟩, n6.keep rfl (fun a b c => hs3.2.2 a (by omega)), n7.keep rfl (hs3.1 18 (by decide))⟩, hqs.keepc hs3.c (by omega), ht3⟩ (by omega)
end MASK3
