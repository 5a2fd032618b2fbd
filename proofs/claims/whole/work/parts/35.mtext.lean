/-! ===== the reference: text ===== -/
theorem gX.keepT {X : tx_X} {I I' : Nat → Int32} {B B' : Nat → Nat → Int32} {μ μ' : Nat → List Nat} (h : gX X I B μ) (h1 : I' 1 = I 1) (h2 : I' 2 = I 2) (hB : ∀ i, 3 ≤ i → i ≤ 5 → ∀ t, t < xnt X → B' i t = B i t) (hF : ∀ i, 6 ≤ i → i ≤ 7 → ∀ a, a < 48 * xnt X → B' i a = B i a) (hm : ∀ a, a < 48 * xnt X → μ' a = μ a) : gX X I' B' μ' := by
  obtain ⟨⟨a1, a2, a3⟩, a4, a5⟩ := h
  refine ⟨⟨h1.trans a1, a2, fun t ht => ?_⟩, fun t ht p hp => ?_, h2.trans a5⟩
  · obtain ⟨k1, k2, k3, k4, k5, k6, k7⟩ := a3 t ht
    refine ⟨by rw [hB 3 (by omega) (by omega) t ht]; exact k1, k2, by rw [hB 4 (by omega) (by omega) t ht]; exact k3, k4, by rw [hB 5 (by omega) (by omega) t ht]; exact k5, k6, fun p hp => ?_⟩
    rw [hm _ (by omega)]
    exact k7 p hp
  · have := (a3 t ht).2.2.2.2.2.1
    rw [hF 6 (by omega) (by omega) _ (by omega), hF 7 (by omega) (by omega) _ (by omega)]
    exact a4 t ht p hp
theorem cnt_congr {P P' : Nat → Prop} : ∀ n, (∀ j, j < n → (P j ↔ P' j)) → cnt P n = cnt P' n
  | 0, _ => rfl
  | n + 1, h => by
    have ih := cnt_congr n (fun j hj => h j (by omega))
    by_cases q : P n
    · rw [cnt_t q, cnt_t ((h n (by omega)).mp q), ih]
    · rw [cnt_f q, cnt_f (fun q2 => q ((h n (by omega)).mpr q2)), ih]
theorem sumN_le {f : Nat → Nat} {m : Nat} : ∀ n, (∀ j, j < n → f j ≤ m) → sumN f n ≤ m * n
  | 0, _ => Nat.le_refl _
  | n + 1, h => by
    have ih := sumN_le n (fun j hj => h j (by omega))
    have := h n (by omega)
    rw [sumN, Nat.mul_succ]
    omega
def xadd (X : tx_X) (l f : Nat) (z : wS) : tx_X := (xnt X + 1, va_up (xlg X) (xnt X) (some l), va_up (xfd X) (xnt X) f, va_up (xcn X) (xnt X) z.1, va_up (xwd X) (xnt X) z.2.2.1, va_up (xfr X) (xnt X) z.2.2.2.1, va_up (xfu X) (xnt X) z.2.2.2.2)
noncomputable def spText (Z : tx_Z) (x f : Int32) : Int32 × tx_Z := ifp (isL x ∧ 0 ≤ f ∧ f < 4) (if xnt (zX Z) = 40 ∨ 400 < sumN (xcn (zX Z)) (xnt (zX Z)) + (zw Z).1 then (-3, z0 Z) else (nI (xnt (zX Z)), (((zP Z).1, 0), zN Z, xadd (zX Z) x.toNatClampNeg f.toNatClampNeg (zw Z), Z.2.2.2))) (-1, Z)
section MTEXT
variable {T : Nat → am_C} {D : List am_C} {S : Nat → Int64}
theorem l_wordsOf {X : tx_X} {I : Nat → Int32} {B : Nat → Nat → Int32} {μ : Nat → List Nat} (hX : gX X I B μ) {n : Nat} (hn : n ≤ xnt X) : ∀ (d t : Nat), n = t + d →
    Go m_Mo_wordsOf 4 [some (.ref 48), some (.int (nI n)), some (.int (nI (sumN (xcn X) t))), some (.int (nI t))] [] (hM T I B S D) (fun r h' => r = some (.int (nI (sumN (xcn X) n))) ∧ h' = hM T I B S D) := by
  obtain ⟨⟨x1, x2, x3⟩, -, -⟩ := hX
  intro d
  induction d with
  | zero =>
    intro t ht
    have et : t = n := by omega
    subst et
    iterate 3 refine go_s rfl rfl rfl trivial ?_
    refine go_if (fun hc => ?_) (fun hc => ?_)
    · iterate 1 refine go_s rfl rfl rfl trivial ?_
      exact go_r rfl rfl rfl trivial ⟨rfl, rfl⟩
    · exact absurd (Int32.le_refl _) hc
  | succ d ih =>
    intro t ht
    have ct : (nI t).toNatClampNeg = t := nI_clamp (by omega)
    iterate 3 refine go_s rfl rfl rfl trivial ?_
    refine go_if (fun hc => ?_) (fun hc => ?_)
    · exact absurd hc (nI_ge (by omega) (by omega))
    · iterate 4 refine go_s rfl rfl rfl trivial ?_
      refine go_s rfl rfl rfl ?_ ?_
      · exact vp_in_nI (by omega) (by omega)
      simp only [ct, (x3 t (by omega)).2.2.2.2.1]
      iterate 2 refine go_s rfl rfl rfl trivial ?_
      rw [nI_add]
      iterate 2 refine go_s rfl rfl rfl trivial ?_
      rw [nI_1]
      exact ih (t + 1) (by omega)
theorem c_wordsOf {X : tx_X} {I : Nat → Int32} {B : Nat → Nat → Int32} {μ : Nat → List Nat} (hX : gX X I B μ) {n : Nat} (hn : n ≤ xnt X) : Do m_Mo_wordsOf [.ref 48, .int (nI n)] (hM T I B S D) (fun r h' => r = some (.int (nI (sumN (xcn X) n))) ∧ h' = hM T I B S D) := by
  iterate 4 refine go_s rfl rfl rfl trivial ?_
  exact l_wordsOf hX hn n 0 (by omega)
theorem l_text88 {Z : tx_Z} {l f : Nat} {z : wS} (hl : l < 3) (hf : f < 4) (hz : z.1 ≤ 48) (hnt : xnt (zX Z) < 40) : ∀ (d k : Nat) (I : Nat → Int32) (B : Nat → Nat → Int32) (μ : Nat → List Nat), tx_m Z I B S μ → mtap I B μ z → B 3 (xnt (zX Z)) = nI l → B 4 (xnt (zX Z)) = nI f → B 5 (xnt (zX Z)) = nI z.1 →
      (∀ j, j < k → μ (48 * xnt (zX Z) + j) = z.2.2.1 j ∧ B 6 (48 * xnt (zX Z) + j) = nI (z.2.2.2.1 j) ∧ B 7 (48 * xnt (zX Z) + j) = nI (z.2.2.2.2 j)) → z.1 = k + d →
    Go m_Mo_text 88 [some (.ref 48), some (.int (nI l)), some (.int (nI f)), some (.int (nI k))] [] (hM T I B S D) (fun r h' => r = some (.int (nI (xnt (zX Z)))) ∧ ∃ I' B' μ', h' = hM T I' B' S D ∧ tx_m (zP Z, zN Z, xadd (zX Z) l f z, Z.2.2.2) I' B' S μ') := by
  intro d
  induction d with
  | zero =>
    intro k I B μ hZ hm b3 b4 b5 hj hk
    obtain ⟨h1, h2, h3, h4, h5, h6, h7⟩ := id hZ
    have ek : k = z.1 := by omega
    subst ek
    iterate 3 refine go_s rfl rfl rfl trivial ?_
    rw [hm.1]
    iterate 1 refine go_s rfl rfl rfl trivial ?_
    refine go_if (fun hc => ?_) (fun hc => ?_)
    · have e1 : I 1 = nI (xnt (zX Z)) := h4.1.1
      iterate 5 refine go_s rfl rfl rfl trivial ?_
      rw [e1, nI_1]
      iterate 5 refine go_s rfl rfl rfl trivial ?_
      refine go_r rfl rfl rfl trivial ⟨?_, va_up I 1 (nI (xnt (zX Z) + 1)), B, μ, rfl, h1, h2.keep rfl rfl, h3.keep rfl rfl rfl (fun _ _ _ => rfl), ⟨⟨va_up_self _ _ _, hnt, fun t ht => ?_⟩, fun t ht p hp => ?_, ?_⟩, h5.keep rfl rfl, h6.keep rfl (fun _ _ _ => rfl), h7.keep rfl rfl⟩
      · rw [show (1 : Int32) = nI 1 from rfl, pk_sub (by omega)]
        rfl
      · show B 3 t = lgI (va_up (xlg (zX Z)) (xnt (zX Z)) (some l) t) ∧ (∀ l', va_up (xlg (zX Z)) (xnt (zX Z)) (some l) t = some l' → l' < 3) ∧ B 4 t = nI (va_up (xfd (zX Z)) (xnt (zX Z)) f t) ∧ va_up (xfd (zX Z)) (xnt (zX Z)) f t < 4 ∧ B 5 t = nI (va_up (xcn (zX Z)) (xnt (zX Z)) z.1 t) ∧ va_up (xcn (zX Z)) (xnt (zX Z)) z.1 t ≤ 48 ∧ ∀ p, p < va_up (xcn (zX Z)) (xnt (zX Z)) z.1 t → μ (48 * t + p) = va_up (xwd (zX Z)) (xnt (zX Z)) z.2.2.1 t p
        have ht' : t < xnt (zX Z) + 1 := ht
        by_cases e : t = xnt (zX Z)
        · rw [e]
          simp only [va_up_self]
          exact ⟨b3, fun l' q => by cases q; exact hl, b4, hf, b5, hz, fun p hp => (hj p hp).1⟩
        · simp only [va_up_ne _ _ e]
          exact h4.1.2.2 t (by omega)
      · have ht' : t < xnt (zX Z) + 1 := ht
        have hp' : p < va_up (xcn (zX Z)) (xnt (zX Z)) z.1 t := hp
        show B 6 (48 * t + p) = nI (va_up (xfr (zX Z)) (xnt (zX Z)) z.2.2.2.1 t p) ∧ B 7 (48 * t + p) = nI (va_up (xfu (zX Z)) (xnt (zX Z)) z.2.2.2.2 t p)
        by_cases e : t = xnt (zX Z)
        · rw [e] at hp' ⊢
          simp only [va_up_self] at hp' ⊢
          exact (hj p hp').2
        · simp only [va_up_ne _ _ e] at hp' ⊢
          exact h4.2.1 t (by omega) p hp'
      · have e3 : xhere (xadd (zX Z) l f z) = xhere (zX Z) + 1 := by
          show cnt (fun t => va_up (xlg (zX Z)) (xnt (zX Z)) (some l) t ≠ none) (xnt (zX Z) + 1) = _
          rw [cnt_t (by rw [va_up_self]; simp)]
          congr 1
          refine cnt_congr _ fun j hj => ?_
          rw [va_up_ne _ _ (by omega)]
        have e4 := cnt_le (fun t => xlg (zX Z) t ≠ none) (xnt (zX Z))
        rw [va_up_ne _ _ (by decide), h4.2.2, e3]
        congr 1
        show xnt (zX Z) - xhere (zX Z) = xnt (zX Z) + 1 - (xhere (zX Z) + 1)
        omega
    · exact absurd (Int32.le_refl _) hc
  | succ d ih =>
    intro k I B μ hZ hm b3 b4 b5 hj hk
    obtain ⟨h1, h2, h3, h4, h5, h6, h7⟩ := id hZ
    obtain ⟨m1, m2, m3⟩ := hm.2 k (by omega)
    have e1 : I 1 = nI (xnt (zX Z)) := h4.1.1
    have ek : (3968 : Int32) + nI k = nI (3968 + k) := by rw [show (3968 : Int32) = nI 3968 from rfl, nI_add]
    have ep : (48 : Int32) * nI (xnt (zX Z)) + nI k = nI (48 * xnt (zX Z) + k) := by
      rw [show (48 : Int32) = nI 48 from rfl, pk_mul, nI_add]
    have ck : (nI k).toNatClampNeg = k := nI_clamp (by omega)
    have cp : (nI (48 * xnt (zX Z) + k)).toNatClampNeg = 48 * xnt (zX Z) + k := nI_clamp (by omega)
    iterate 3 refine go_s rfl rfl rfl trivial ?_
    rw [hm.1]
    iterate 1 refine go_s rfl rfl rfl trivial ?_
    refine go_if (fun hc => ?_) (fun hc => ?_)
    · exact absurd hc (nI_ge (by omega) (by omega))
    · iterate 10 refine go_s rfl rfl rfl trivial ?_
      rw [e1, ep, ek]
      refine go_c rfl rfl rfl (c_copy h1 (a := 3968 + k) (b := 48 * xnt (zX Z) + k) (by omega) (by omega) (by omega)) ?_
      rintro r h0 ⟨rfl, B1, rfl, hs1, hw1⟩
      rw [m1] at hw1
      iterate 11 refine go_s rfl rfl rfl trivial ?_
      rw [e1, ep]
      refine go_s rfl rfl rfl ?_ ?_
      · exact vp_in_nI (by omega) (by omega)
      simp only [ck]
      rw [hs1 10 (by decide), m2]
      refine go_s rfl rfl rfl ?_ ?_
      · exact vp_in_nI (by omega) (by omega)
      simp only [cp]
      iterate 11 refine go_s rfl rfl rfl trivial ?_
      rw [e1, ep]
      refine go_s rfl rfl rfl ?_ ?_
      · exact vp_in_nI (by omega) (by omega)
      simp only [ck]
      rw [hs1 11 (by decide), m3]
      refine go_s rfl rfl rfl ?_ ?_
      · exact vp_in_nI (by omega) (by omega)
      simp only [cp]
      iterate 2 refine go_s rfl rfl rfl trivial ?_
      rw [nI_1]
      have kB : ∀ i, 2 ≤ i → i ≠ 6 → i ≠ 7 → va_up (va_up B1 6 (upd (B1 6) (48 * xnt (zX Z) + k) (nI (z.2.2.2.1 k)))) 7 (upd (B1 7) (48 * xnt (zX Z) + k) (nI (z.2.2.2.2 k))) i = B i := fun i a b c => (va_up_ne _ _ c).trans ((va_up_ne _ _ b).trans (hs1 i a))
      have k6 : va_up (va_up B1 6 (upd (B1 6) (48 * xnt (zX Z) + k) (nI (z.2.2.2.1 k)))) 7 (upd (B1 7) (48 * xnt (zX Z) + k) (nI (z.2.2.2.2 k))) 6 = upd (B 6) (48 * xnt (zX Z) + k) (nI (z.2.2.2.1 k)) := by
        rw [va_up_ne _ _ (by decide), va_up_self, hs1 6 (by decide)]
      have k7 : va_up (va_up B1 6 (upd (B1 6) (48 * xnt (zX Z) + k) (nI (z.2.2.2.1 k)))) 7 (upd (B1 7) (48 * xnt (zX Z) + k) (nI (z.2.2.2.2 k))) 7 = upd (B 7) (48 * xnt (zX Z) + k) (nI (z.2.2.2.2 k)) := by
        rw [va_up_self, hs1 7 (by decide)]
      have km : ∀ a, a ≠ 48 * xnt (zX Z) + k → va_up μ (48 * xnt (zX Z) + k) (z.2.2.1 k) a = μ a := fun a ha => va_up_ne _ _ ha
      refine ih (k + 1) I (va_up (va_up B1 6 (upd (B1 6) (48 * xnt (zX Z) + k) (nI (z.2.2.2.1 k)))) 7 (upd (B1 7) (48 * xnt (zX Z) + k) (nI (z.2.2.2.2 k)))) (va_up μ (48 * xnt (zX Z) + k) (z.2.2.1 k)) ⟨hw1.keep2 rfl rfl, h2.keep rfl (kB 2 (by decide) (by decide) (by decide)), h3.keep rfl (kB 8 (by decide) (by decide) (by decide)) (kB 9 (by decide) (by decide) (by decide)) (fun a b c => km a (by omega)), ?_, h5.keep rfl (kB 16 (by decide) (by decide) (by decide)), h6.keep rfl (fun a b c => km a (by omega)), h7.keep rfl (kB 18 (by decide) (by decide) (by decide))⟩ (hm.keep hz rfl (kB 10 (by decide) (by decide) (by decide)) (kB 11 (by decide) (by decide) (by decide)) (fun a b c => km a (by omega))) ((congrFun (kB 3 (by decide) (by decide) (by decide)) _).trans b3) ((congrFun (kB 4 (by decide) (by decide) (by decide)) _).trans b4) ((congrFun (kB 5 (by decide) (by decide) (by decide)) _).trans b5) (fun j hjk => ?_) (by omega)
      · refine h4.keepT rfl rfl (fun i a b t ht => congrFun (kB i (by omega) (by omega) (by omega)) t) (fun i a b t ht => ?_) (fun a ha => km a (by omega))
        rcases (by omega : i = 6 ∨ i = 7) with rfl | rfl
        · rw [k6, pk_un (by omega)]
        · rw [k7, pk_un (by omega)]
      · by_cases e : j = k
        · subst e
          rw [k6, k7, va_up_self, pk_us, pk_us]
          exact ⟨rfl, rfl, rfl⟩
        · obtain ⟨y1, y2, y3⟩ := hj j (by omega)
          rw [k6, k7, km _ (by omega), pk_un (by omega), pk_un (by omega)]
          exact ⟨y1, y2, y3⟩
theorem c_text {Z : tx_Z} {I : Nat → Int32} {B : Nat → Nat → Int32} {μ : Nat → List Nat} (hZ : tx_m Z I B S μ) (x f : Int32) : Do m_Mo_text [.ref 48, .int x, .int f] (hM T I B S D) (fun r h' => r = some (.int (spText Z x f).1) ∧ ∃ I' B' μ', h' = hM T I' B' S D ∧ tx_m (spText Z x f).2 I' B' S μ') := by
  have bad : ¬ (isL x ∧ 0 ≤ f ∧ f < 4) → Go m_Mo_text 16 [some (.ref 48), some (.int x), some (.int f), none] [] (hM T I B S D) (fun r h' => r = some (.int (spText Z x f).1) ∧ ∃ I' B' μ', h' = hM T I' B' S D ∧ tx_m (spText Z x f).2 I' B' S μ') := by
    intro q
    rw [spText, ifp_f q]
    iterate 1 refine go_s rfl rfl rfl trivial ?_
    exact go_r rfl rfl rfl trivial ⟨rfl, I, B, μ, rfl, hZ⟩
  iterate 1 refine go_s rfl rfl rfl trivial ?_
  refine go_c rfl rfl rfl (c_isLanguage _ x) ?_
  rintro r h3 ⟨rfl, rfl⟩
  iterate 1 refine go_s rfl rfl rfl trivial ?_
  refine go_if (fun hc => ?_) (fun hc => ?_)
  · exact bad fun q => b01_eq0.mp hc q.1
  · have hq : isL x := Classical.not_not.mp fun q => hc (b01_f q)
    obtain ⟨l, hl, rfl⟩ := isL_nat hq
    have cl : (nI l).toNatClampNeg = l := nI_clamp (by omega)
    iterate 2 refine go_s rfl rfl rfl trivial ?_
    refine go_if (fun hc1 => ?_) (fun hc1 => ?_)
    · exact bad fun q => absurd hc1 (Int32.not_lt.mpr q.2.1)
    · iterate 3 refine go_s rfl rfl rfl trivial ?_
      refine go_if (fun hc2 => ?_) (fun hc2 => ?_)
      · obtain ⟨g, hg, rfl⟩ := nI_of hc1
        have hg4 : g < 4 := (nI_ltI (b := 4) hg (by omega)).mp hc2
        have cg : (nI g).toNatClampNeg = g := nI_clamp (by omega)
        rw [spText, ifp_t ⟨hq, Int32.not_lt.mp hc1, hc2⟩, cl, cg]
        iterate 1 refine go_s rfl rfl rfl trivial ?_
        refine go_c rfl rfl rfl (c_readWords hZ.1 hZ.2.1) ?_
        rintro r h3 ⟨rfl, I1, B1, μ1, rfl, hI0, hm1, hr1⟩
        have hZ1 := l_rdZ hZ hI0 hr1
        have hz48 := zw48 hZ.2.1.2.1
        obtain ⟨h1, h2, h3, h4, h5, h6, h7⟩ := id hZ1
        have e1 : I1 1 = nI (xnt (zX Z)) := h4.1.1
        have h40 : xnt (zX Z) ≤ 40 := h4.1.2.1
        have e4 : I1 4 = nI (zw Z).1 := hm1.1
        iterate 2 refine go_s rfl rfl rfl trivial ?_
        rw [e1]
        iterate 2 refine go_s rfl rfl rfl trivial ?_
        refine go_if (fun hc3 => ?_) (fun hc3 => ?_)
        · have : xnt (zX Z) = 40 := nI_inj (by omega) (by omega) hc3
          rw [if_pos (Or.inl this)]
          iterate 1 refine go_s rfl rfl rfl trivial ?_
          exact go_r rfl rfl rfl trivial ⟨rfl, I1, B1, μ1, rfl, hZ1⟩
        · have h40' : ¬ xnt (zX Z) = 40 := fun q => hc3 (by rw [q]; rfl)
          iterate 3 refine go_s rfl rfl rfl trivial ?_
          rw [e1]
          refine go_c rfl rfl rfl (c_wordsOf h4 (n := xnt (zX Z)) (Nat.le_refl _)) ?_
          rintro r h0 ⟨rfl, rfl⟩
          have hsum : sumN (xcn (zX Z)) (xnt (zX Z)) ≤ 48 * xnt (zX Z) := sumN_le _ (fun j hj => (h4.1.2.2 j hj).2.2.2.2.2.1)
          iterate 2 refine go_s rfl rfl rfl trivial ?_
          rw [e4]
          iterate 1 refine go_s rfl rfl rfl trivial ?_
          rw [show nI (sumN (xcn (zX (z0 Z))) (xnt (zX Z))) + nI (zw Z).1 = nI (sumN (xcn (zX Z)) (xnt (zX Z)) + (zw Z).1) from nI_add _ _]
          iterate 2 refine go_s rfl rfl rfl trivial ?_
          refine go_if (fun hc4 => ?_) (fun hc4 => ?_)
          · have : sumN (xcn (zX Z)) (xnt (zX Z)) + (zw Z).1 ≤ 400 := (nI_leI (b := 400) (by omega) (by omega)).mp hc4
            rw [if_neg (by omega)]
            have cn : (nI (xnt (zX Z))).toNatClampNeg = xnt (zX Z) := nI_clamp (by omega)
            iterate 5 refine go_s rfl rfl rfl trivial ?_
            rw [e1]
            refine go_s rfl rfl rfl ?_ ?_
            · exact vp_in_nI (by omega) (by omega)
            simp only [cn]
            iterate 5 refine go_s rfl rfl rfl trivial ?_
            rw [e1]
            refine go_s rfl rfl rfl ?_ ?_
            · exact vp_in_nI (by omega) (by omega)
            simp only [cn]
            iterate 4 refine go_s rfl rfl rfl trivial ?_
            rw [e1]
            iterate 2 refine go_s rfl rfl rfl trivial ?_
            rw [e4]
            refine go_s rfl rfl rfl ?_ ?_
            · exact vp_in_nI (by omega) (by omega)
            simp only [cn]
            iterate 2 refine go_s rfl rfl rfl trivial ?_
            have kB : ∀ i, i ≠ 3 → i ≠ 4 → i ≠ 5 → va_up (va_up (va_up B1 3 (upd (B1 3) (xnt (zX Z)) (nI l))) 4 (upd (B1 4) (xnt (zX Z)) (nI g))) 5 (upd (B1 5) (xnt (zX Z)) (nI (zw Z).1)) i = B1 i := fun i a b c => (va_up_ne _ _ c).trans ((va_up_ne _ _ b).trans (va_up_ne _ _ a))
            have k3 : va_up (va_up (va_up B1 3 (upd (B1 3) (xnt (zX Z)) (nI l))) 4 (upd (B1 4) (xnt (zX Z)) (nI g))) 5 (upd (B1 5) (xnt (zX Z)) (nI (zw Z).1)) 3 = upd (B1 3) (xnt (zX Z)) (nI l) := (va_up_ne _ _ (by decide)).trans ((va_up_ne _ _ (by decide)).trans (va_up_self _ _ _))
            have k4 : va_up (va_up (va_up B1 3 (upd (B1 3) (xnt (zX Z)) (nI l))) 4 (upd (B1 4) (xnt (zX Z)) (nI g))) 5 (upd (B1 5) (xnt (zX Z)) (nI (zw Z).1)) 4 = upd (B1 4) (xnt (zX Z)) (nI g) := (va_up_ne _ _ (by decide)).trans (va_up_self _ _ _)
            have k5 : va_up (va_up (va_up B1 3 (upd (B1 3) (xnt (zX Z)) (nI l))) 4 (upd (B1 4) (xnt (zX Z)) (nI g))) 5 (upd (B1 5) (xnt (zX Z)) (nI (zw Z).1)) 5 = upd (B1 5) (xnt (zX Z)) (nI (zw Z).1) := va_up_self _ _ _
            have := l_text88 (T := T) (D := D) (S := S) (Z := z0 Z) hl hg4 hz48 (by show xnt (zX Z) < 40; omega) (zw Z).1 0 I1 (va_up (va_up (va_up B1 3 (upd (B1 3) (xnt (zX Z)) (nI l))) 4 (upd (B1 4) (xnt (zX Z)) (nI g))) 5 (upd (B1 5) (xnt (zX Z)) (nI (zw Z).1))) μ1 ⟨h1.keep2 rfl rfl, h2.keep rfl rfl, h3.keep rfl rfl rfl (fun _ _ _ => rfl), ?_, h5.keep rfl rfl, h6.keep rfl (fun _ _ _ => rfl), h7.keep rfl rfl⟩ (hm1.keep hz48 rfl rfl rfl (fun _ _ _ => rfl)) ?_ ?_ ?_ (fun j hj => absurd hj (Nat.not_lt_zero j)) (by omega)
            · exact this
            · refine h4.keepT rfl rfl (fun i a b t ht => ?_) (fun i a b t ht => congrFun (kB i (by omega) (by omega) (by omega)) t) (fun _ _ => rfl)
              have ht' : t < xnt (zX Z) := ht
              rcases (by omega : i = 3 ∨ i = 4 ∨ i = 5) with rfl | rfl | rfl
              · rw [k3, pk_un (by omega)]
              · rw [k4, pk_un (by omega)]
              · rw [k5, pk_un (by omega)]
            · rw [k3]; exact pk_us
            · rw [k4]; exact pk_us
            · rw [k5]; exact pk_us
          · have : 400 < sumN (xcn (zX Z)) (xnt (zX Z)) + (zw Z).1 := Nat.lt_of_not_le fun q => hc4 ((nI_leI (b := 400) (by omega) (by omega)).mpr q)
            rw [if_pos (Or.inr this)]
            iterate 1 refine go_s rfl rfl rfl trivial ?_
            exact go_r rfl rfl rfl trivial ⟨rfl, I1, B1, μ1, rfl, hZ1⟩
      · exact bad fun q => hc2 q.2.2
end MTEXT
