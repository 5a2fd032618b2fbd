/-! ===== the reference: ending ===== -/
theorem rl_app {μ μ' : Nat → List Nat} {l : Nat} : ∀ (d r : Nat), (∀ a, a < 3920 + 16 * l + 2 * (r + d) → 3920 + 16 * l ≤ a → μ' a = μ a) → rl μ' l r (d + 1) = rl μ l r d ++ [(μ' (3920 + 16 * l + 2 * (r + d)), μ' (3920 + 16 * l + 2 * (r + d) + 1))]
  | 0, r, _ => rfl
  | d + 1, r, h => by
    have ih := rl_app (μ := μ) (μ' := μ') (l := l) d (r + 1) (fun a h1 h2 => h a (by omega) h2)
    rw [rl, ih]
    simp only [rl, List.cons_append]
    rw [h (3920 + 16 * l + 2 * r) (by omega) (by omega), h (3920 + 16 * l + 2 * r + 1) (by omega) (by omega)]
    rw [show r + 1 + d = r + (d + 1) by omega]
theorem gN_rule {N : tx_N} {I I' : Nat → Int32} {B B' : Nat → Nat → Int32} {μ μ' : Nat → List Nat} {l : Nat} {u v : List Nat} (h : gN N I B μ) (hl : l < 3) (h8 : (N.2 l).length < 8) (hI : I' 3 = I 3) (hB8 : B' 8 = B 8) (hB9 : B' 9 = upd (B 9) l (nI ((N.2 l).length + 1))) (hm : ∀ a, 1920 ≤ a → a < 3968 → a ≠ 3920 + 16 * l + 2 * (N.2 l).length → a ≠ 3920 + 16 * l + 2 * (N.2 l).length + 1 → μ' a = μ a) (hu : μ' (3920 + 16 * l + 2 * (N.2 l).length) = u) (hv : μ' (3920 + 16 * l + 2 * (N.2 l).length + 1) = v) : gN (N.1, va_up N.2 l (N.2 l ++ [(u, v)])) I' B' μ' := by
  obtain ⟨h1, h2, h3⟩ := h
  refine ⟨hI.trans h1, h2, fun l' hl' => ?_⟩
  obtain ⟨k1, k2, k3, k4⟩ := h3 l' hl'
  show B' 9 l' = nI (va_up N.2 l (N.2 l ++ [(u, v)]) l').length ∧ (va_up N.2 l (N.2 l ++ [(u, v)]) l').length ≤ 8 ∧ rl μ' l' 0 (va_up N.2 l (N.2 l ++ [(u, v)]) l').length = va_up N.2 l (N.2 l ++ [(u, v)]) l' ∧ ∀ w, stopQ (nst N) B' μ' (nI l') w ↔ w ∈ N.1 l'
  have hs : ∀ w, stopQ (nst N) B' μ' (nI l') w ↔ w ∈ N.1 l' := by
    intro w
    rw [← k4 w]
    constructor
    · rintro ⟨k, y1, y2, y3⟩
      exact ⟨k, y1, by rw [← hB8]; exact y2, by rw [← hm (1920 + k) (by omega) (by omega) (by omega) (by omega)]; exact y3⟩
    · rintro ⟨k, y1, y2, y3⟩
      exact ⟨k, y1, by rw [hB8]; exact y2, by rw [hm (1920 + k) (by omega) (by omega) (by omega) (by omega)]; exact y3⟩
  by_cases el : l' = l
  · subst el
    rw [va_up_self]
    refine ⟨by rw [hB9, pk_us, List.length_append]; rfl, by rw [List.length_append, List.length_singleton]; omega, ?_, hs⟩
    rw [List.length_append, List.length_singleton, rl_app (μ := μ) (N.2 l').length 0 (fun a a1 a2 => hm a (by omega) (by omega) (by omega) (by omega)), k3, Nat.zero_add, hu, hv]
  · rw [va_up_ne _ _ el]
    refine ⟨by rw [hB9, pk_un el]; exact k1, k2, ?_, hs⟩
    have key : ∀ (d r : Nat), r + d ≤ 8 → rl μ' l' r d = rl μ l' r d := by
      intro d
      induction d with
      | zero => intro r _; rfl
      | succ d ih =>
        intro r hr
        simp only [rl]
        rw [hm _ (by omega) (by omega) (by omega) (by omega), hm _ (by omega) (by omega) (by omega) (by omega), ih (r + 1) (by omega)]
    exact (key (N.2 l').length 0 (by omega)).trans k3
section MEND
variable {T : Nat → am_C} {D : List am_C} {S : Nat → Int64}
theorem l_end91 {Z : tx_Z} {I : Nat → Int32} {B : Nat → Nat → Int32} {l n : Nat} (hl : l < 3) (hn : B 9 l = nI n) (hn8 : n < 8) (X2 : Option Value) (kk : ∃ μ, tx_m Z I (va_up B 9 (upd (B 9) l (nI (n + 1)))) S μ) :
    Go m_Mo_ending 91 [some (.ref 48), some (.int (nI l)), X2] [] (hM T I B S D) (fun r h' => r = some (.int (nI (n + 1))) ∧ ∃ I' B' μ', h' = hM T I' B' S D ∧ tx_m Z I' B' S μ') := by
  have cl : (nI l).toNatClampNeg = l := nI_clamp (by omega)
  obtain ⟨μ1, kk⟩ := kk
  iterate 4 refine go_s rfl rfl rfl trivial ?_
  refine go_s rfl rfl rfl ?_ ?_
  · exact vp_in_nI (by omega) (by omega)
  simp only [cl, hn]
  iterate 2 refine go_s rfl rfl rfl trivial ?_
  refine go_s rfl rfl rfl ?_ ?_
  · exact vp_in_nI (by omega) (by omega)
  rw [nI_1]
  simp only [cl]
  iterate 3 refine go_s rfl rfl rfl trivial ?_
  refine go_s rfl rfl rfl ?_ ?_
  · exact vp_in_nI (by omega) (by omega)
  simp only [cl]
  refine go_r rfl rfl rfl trivial ⟨?_, I, _, μ1, rfl, kk⟩
  rw [pk_us]
theorem c_ending {Z : tx_Z} {I : Nat → Int32} {B : Nat → Nat → Int32} {μ : Nat → List Nat} (hZ : tx_m Z I B S μ) (x : Int32) : Do m_Mo_ending [.ref 48, .int x] (hM T I B S D) (fun r h' => r = some (.int (spEnding Z x).1) ∧ ∃ I' B' μ', h' = hM T I' B' S D ∧ tx_m (spEnding Z x).2 I' B' S μ') := by
  iterate 1 refine go_s rfl rfl rfl trivial ?_
  refine go_c rfl rfl rfl (c_isLanguage _ x) ?_
  rintro r h3 ⟨rfl, rfl⟩
  iterate 1 refine go_s rfl rfl rfl trivial ?_
  refine go_if (fun hc => ?_) (fun hc => ?_)
  · have hq : isL x := Classical.not_not.mp fun q => hc (b01_f q)
    obtain ⟨l, hl, rfl⟩ := isL_nat hq
    have cl : (nI l).toNatClampNeg = l := nI_clamp (by omega)
    rw [spEnding, ifp_t hq, cl]
    iterate 1 refine go_s rfl rfl rfl trivial ?_
    refine go_c rfl rfl rfl (c_readWords hZ.1 hZ.2.1) ?_
    rintro r h3 ⟨rfl, I1, B1, μ1, rfl, hI0, hm1, hr1⟩
    have hZ1 := l_rdZ hZ hI0 hr1
    have hz48 := zw48 hZ.2.1.2.1
    obtain ⟨h1, h2, h3, h4, h5, h6, h7⟩ := id hZ1
    have e0 : I1 4 = nI (zw Z).1 := hm1.1
    iterate 2 refine go_s rfl rfl rfl trivial ?_
    rw [e0]
    iterate 1 refine go_s rfl rfl rfl trivial ?_
    refine go_if (fun hc1 => ?_) (fun hc1 => ?_)
    · have he : (zw Z).1 = 0 := nI_inj (by omega) (by omega) hc1
      rw [if_pos (Or.inl he)]
      iterate 1 refine go_s rfl rfl rfl trivial ?_
      exact go_r rfl rfl rfl trivial ⟨rfl, I1, B1, μ1, rfl, hZ1⟩
    · have hne : ¬ (zw Z).1 = 0 := fun q => hc1 (by rw [q]; rfl)
      iterate 2 refine go_s rfl rfl rfl trivial ?_
      rw [e0]
      iterate 2 refine go_s rfl rfl rfl trivial ?_
      refine go_if (fun hc2 => ?_) (fun hc2 => ?_)
      · have h2le : (zw Z).1 ≤ 2 := (nI_leI (b := 2) (by omega) (by omega)).mp hc2
        rw [if_neg (by omega)]
        obtain ⟨n1, n2, n3, n4⟩ := h3.2.2 l hl
        have n1 : B1 9 l = nI ((zN Z).2 l).length := n1
        iterate 3 refine go_s rfl rfl rfl trivial ?_
        refine go_s rfl rfl rfl ?_ ?_
        · exact vp_in_nI (by omega) (by omega)
        simp only [cl, n1]
        iterate 2 refine go_s rfl rfl rfl trivial ?_
        refine go_if (fun hc3 => ?_) (fun hc3 => ?_)
        · have h8 : ¬ ((zN Z).2 l).length = 8 := fun q => hc3 (by
            show nI ((zN Z).2 l).length = 8
            rw [q]; rfl)
          have n2' : ((zN Z).2 l).length ≤ 8 := n2
          have ew0 : μ1 3968 = (zw Z).2.2.1 0 := (hm1.2 0 (by show 0 < (zw Z).1; omega)).1
          rw [if_neg h8]
          iterate 4 refine go_s rfl rfl rfl trivial ?_
          refine go_s rfl rfl rfl ?_ ?_
          · exact vp_in_nI (by omega) (by omega)
          simp only [cl, n1]
          refine go_c rfl rfl rfl (c_endingAt _ _ _) ?_
          rintro r h0 ⟨rfl, rfl⟩
          iterate 4 refine go_s rfl rfl rfl trivial ?_
          refine go_c rfl rfl rfl (c_copy h1 (a := 3968) (b := 3920 + 16 * l + 2 * ((zN Z).2 l).length) (by omega) (by omega) (by omega)) ?_
          rintro r h0 ⟨rfl, B2, rfl, hs2, hw2⟩
          rw [ew0] at hw2
          have c2 : (nI (3920 + 16 * l + 2 * ((zN Z).2 l).length + 1)).toNatClampNeg = 3920 + 16 * l + 2 * ((zN Z).2 l).length + 1 := nI_clamp (by omega)
          iterate 5 refine go_s rfl rfl rfl trivial ?_
          rw [nI_1]
          iterate 1 refine go_s rfl rfl rfl trivial ?_
          refine go_s rfl rfl rfl ?_ ?_
          · exact vp_in_nI (by omega) (by omega)
          simp only [c2]
          have hw3 : wm (va_up B2 1 (upd (B2 1) (3920 + 16 * l + 2 * ((zN Z).2 l).length + 1) 0)) _ := wm_len0 hw2 (a := 3920 + 16 * l + 2 * ((zN Z).2 l).length + 1) (by omega) rfl rfl
          iterate 2 refine go_s rfl rfl rfl trivial ?_
          rw [e0]
          iterate 2 refine go_s rfl rfl rfl trivial ?_
          have k3 : ∀ i, 2 ≤ i → va_up B2 1 (upd (B2 1) (3920 + 16 * l + 2 * ((zN Z).2 l).length + 1) 0) i = B1 i := fun i hi => (va_up_ne _ _ (by omega)).trans (hs2 i hi)
          refine go_if (fun hc4 => ?_) (fun hc4 => ?_)
          · have h21 : ¬ (zw Z).1 = 2 := fun q => hc4 (by rw [q]; rfl)
            refine l_end91 hl ((congrFun (k3 9 (by decide)) l).trans n1) (by omega) _ ⟨va_up (va_up μ1 (3920 + 16 * l + 2 * ((zN Z).2 l).length) ((zw Z).2.2.1 0)) (3920 + 16 * l + 2 * ((zN Z).2 l).length + 1) [], ?_⟩
            rw [if_neg h21]
            have kB : ∀ i, 2 ≤ i → i ≠ 9 → va_up (va_up B2 1 (upd (B2 1) (3920 + 16 * l + 2 * ((zN Z).2 l).length + 1) 0)) 9 (upd (va_up B2 1 (upd (B2 1) (3920 + 16 * l + 2 * ((zN Z).2 l).length + 1) 0) 9) l (nI (((zN Z).2 l).length + 1))) i = B1 i := fun i a b => (va_up_ne _ _ b).trans (k3 i a)
            refine ⟨hw3.keep2 rfl rfl, h2.keep rfl (kB 2 (by decide) (by decide)), ?_, h4.keep rfl rfl (fun i a b => kB i (by omega) (by omega)) (fun a b => (va_up_ne _ _ (by omega)).trans (va_up_ne _ _ (by omega))), h5.keep rfl (kB 16 (by decide) (by decide)), h6.keep rfl (fun a b c => (va_up_ne _ _ (by omega)).trans (va_up_ne _ _ (by omega))), h7.keep rfl (kB 18 (by decide) (by decide))⟩
            refine gN_rule h3 hl (by show ((zN Z).2 l).length < 8; omega) rfl (kB 8 (by decide) (by decide)) ?_ (fun a a1 a2 a3 a4 => (va_up_ne _ _ a4).trans (va_up_ne _ _ a3)) ?_ (va_up_self _ _ _)
            · rw [va_up_self, k3 9 (by decide)]
            · exact (va_up_ne _ _ (by show 3920 + 16 * l + 2 * ((zN Z).2 l).length ≠ _; omega)).trans (va_up_self _ _ _)
          · have h21 : (zw Z).1 = 2 := nI_inj (by omega) (by omega) (Classical.not_not.mp hc4)
            have ew1 : μ1 3969 = (zw Z).2.2.1 1 := (hm1.2 1 (by show 1 < (zw Z).1; omega)).1
            iterate 5 refine go_s rfl rfl rfl trivial ?_
            rw [nI_1]
            refine go_c rfl rfl rfl (c_copy hw3 (a := 3969) (b := 3920 + 16 * l + 2 * ((zN Z).2 l).length + 1) (by omega) (by omega) (by omega)) ?_
            rintro r h0 ⟨rfl, B4, rfl, hs4, hw4⟩
            rw [va_up_ne _ _ (by omega), va_up_ne _ _ (by omega), ew1, bx_uu] at hw4
            refine l_end91 hl ((congrFun (hs4 9 (by decide)) l).trans ((congrFun (k3 9 (by decide)) l).trans n1)) (by omega) _ ⟨va_up (va_up μ1 (3920 + 16 * l + 2 * ((zN Z).2 l).length) ((zw Z).2.2.1 0)) (3920 + 16 * l + 2 * ((zN Z).2 l).length + 1) ((zw Z).2.2.1 1), ?_⟩
            rw [if_pos h21]
            have kB : ∀ i, 2 ≤ i → i ≠ 9 → va_up B4 9 (upd (B4 9) l (nI (((zN Z).2 l).length + 1))) i = B1 i := fun i a b => (va_up_ne _ _ b).trans ((hs4 i a).trans (k3 i a))
            refine ⟨hw4.keep2 rfl rfl, h2.keep rfl (kB 2 (by decide) (by decide)), ?_, h4.keep rfl rfl (fun i a b => kB i (by omega) (by omega)) (fun a b => (va_up_ne _ _ (by omega)).trans (va_up_ne _ _ (by omega))), h5.keep rfl (kB 16 (by decide) (by decide)), h6.keep rfl (fun a b c => (va_up_ne _ _ (by omega)).trans (va_up_ne _ _ (by omega))), h7.keep rfl (kB 18 (by decide) (by decide))⟩
            refine gN_rule h3 hl (by show ((zN Z).2 l).length < 8; omega) rfl (kB 8 (by decide) (by decide)) ?_ (fun a a1 a2 a3 a4 => (va_up_ne _ _ a4).trans (va_up_ne _ _ a3)) ?_ (va_up_self _ _ _)
            · rw [va_up_self, hs4 9 (by decide), k3 9 (by decide)]
            · exact (va_up_ne _ _ (by show 3920 + 16 * l + 2 * ((zN Z).2 l).length ≠ _; omega)).trans (va_up_self _ _ _)
        · have h8 : ((zN Z).2 l).length = 8 := nI_inj (by have : ((zN Z).2 l).length ≤ 8 := n2; omega) (by omega) (Classical.not_not.mp hc3)
          rw [if_pos h8]
          iterate 1 refine go_s rfl rfl rfl trivial ?_
          exact go_r rfl rfl rfl trivial ⟨rfl, I1, B1, μ1, rfl, hZ1⟩
      · have h2gt : 2 < (zw Z).1 := by
          refine Nat.lt_of_not_le fun q => hc2 ?_
          exact (nI_leI (b := 2) (by omega) (by omega)).mpr q
        rw [if_pos (Or.inr h2gt)]
        iterate 1 refine go_s rfl rfl rfl trivial ?_
        exact go_r rfl rfl rfl trivial ⟨rfl, I1, B1, μ1, rfl, hZ1⟩
  · have hq : ¬ isL x := fun q => hc (by rw [b01_t q]; decide)
    rw [spEnding, ifp_f hq]
    iterate 1 refine go_s rfl rfl rfl trivial ?_
    exact go_r rfl rfl rfl trivial ⟨rfl, I, B, μ, rfl, hZ⟩
end MEND
