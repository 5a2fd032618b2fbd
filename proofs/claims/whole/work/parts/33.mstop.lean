/-! ===== the reference: stop, stem, ending ===== -/
def zw (Z : tx_Z) : wS := wst (zP Z).1 (zP Z).2
def z0 (Z : tx_Z) : tx_Z := (((zP Z).1, 0), Z.2)
noncomputable def stpF (N : tx_N) (l : Nat) (ws : Nat → List Nat) : Nat → tx_N × Nat
  | 0 => (N, 0)
  | k + 1 => ifp (ws k ∈ (stpF N l ws k).1.1 l) (stpF N l ws k) ((va_up (stpF N l ws k).1.1 l ((stpF N l ws k).1.1 l ++ [ws k]), (stpF N l ws k).1.2), (stpF N l ws k).2 + 1)
noncomputable def spStop (Z : tx_Z) (x : Int32) : Int32 × tx_Z := ifp (isL x) (nI (stpF (zN Z) x.toNatClampNeg (zw Z).2.2.1 (zw Z).1).2, (((zP Z).1, 0), (stpF (zN Z) x.toNatClampNeg (zw Z).2.2.1 (zw Z).1).1, Z.2.2)) (-1, Z)
noncomputable def spStem (Z : tx_Z) (x : Int32) : Int32 × tx_Z := ifp (isL x) (if (zw Z).1 = 0 then (-2, z0 Z) else (nI (stemF ((zN Z).2 x.toNatClampNeg) ((zw Z).2.2.1 0)).length, (((zP Z).1, 0), zN Z, zX Z, zA Z, zL Z, stemF ((zN Z).2 x.toNatClampNeg) ((zw Z).2.2.1 0)))) (-1, Z)
noncomputable def spEnding (Z : tx_Z) (x : Int32) : Int32 × tx_Z := ifp (isL x) (if (zw Z).1 = 0 ∨ 2 < (zw Z).1 then (-2, z0 Z) else if ((zN Z).2 x.toNatClampNeg).length = 8 then (-3, z0 Z) else
  (nI (((zN Z).2 x.toNatClampNeg).length + 1), (((zP Z).1, 0), ((zN Z).1, va_up (zN Z).2 x.toNatClampNeg ((zN Z).2 x.toNatClampNeg ++ [((zw Z).2.2.1 0, if (zw Z).1 = 2 then (zw Z).2.2.1 1 else [])])), Z.2.2))) (-1, Z)
theorem isL_of {l : Nat} (h : l < 3) : isL (nI l) := ⟨Int32.not_lt.mp (nI_pos (by omega)), (nI_ltI (a := l) (b := 3) (by omega) (by omega)).mpr h⟩
theorem nst_up {N : tx_N} {l : Nat} (hl : l < 3) (w : List Nat) : nst (va_up N.1 l (N.1 l ++ [w]), N.2) = nst N + 1 := by
  simp only [nst]
  rcases (by omega : l = 0 ∨ l = 1 ∨ l = 2) with rfl | rfl | rfl
  · rw [va_up_self, va_up_ne _ _ (by decide), va_up_ne _ _ (by decide), List.length_append, List.length_singleton]; omega
  · rw [va_up_ne _ _ (by decide), va_up_self, va_up_ne _ _ (by decide), List.length_append, List.length_singleton]; omega
  · rw [va_up_ne _ _ (by decide), va_up_ne _ _ (by decide), va_up_self, List.length_append, List.length_singleton]; omega
theorem gN_add {N : tx_N} {I I' : Nat → Int32} {B B' : Nat → Nat → Int32} {μ μ' : Nat → List Nat} {l : Nat} {w : List Nat} (h : gN N I B μ) (hl : l < 3) (hr : nst N + 1 ≤ 2000) (hI : I' 3 = nI (nst N + 1)) (hB8 : B' 8 = upd (B 8) (nst N) (nI l)) (hB9 : B' 9 = B 9) (hm : ∀ a, 1920 ≤ a → a < 3968 → a ≠ 1920 + nst N → μ' a = μ a) (hw : μ' (1920 + nst N) = w) : gN (va_up N.1 l (N.1 l ++ [w]), N.2) I' B' μ' := by
  obtain ⟨h1, h2, h3⟩ := h
  refine ⟨by rw [nst_up hl]; exact hI, by rw [nst_up hl]; exact hr, fun l' hl' => ?_⟩
  obtain ⟨k1, k2, k3, k4⟩ := h3 l' hl'
  refine ⟨by rw [hB9]; exact k1, k2, ?_, fun v => ?_⟩
  · rw [rl_keep hl' (fun a h1 h2 => hm a (by omega) h2 (by omega)) _ 0 (by have := k2; show 0 + (N.2 l').length ≤ 8; omega)]
    exact k3
  · rw [nst_up hl]
    show _ ↔ v ∈ va_up N.1 l (N.1 l ++ [w]) l'
    have e : stopQ (nst N + 1) B' μ' (nI l') v ↔ (stopQ (nst N) B μ (nI l') v ∨ (l' = l ∧ v = w)) := by
      constructor
      · rintro ⟨k, k1, k2, k3⟩
        by_cases ek : k = nst N
        · subst ek
          right
          rw [hB8, pk_us] at k2
          exact ⟨((nI_inj (by omega) (by omega) k2)).symm, by rw [← k3]; exact hw⟩
        · left
          refine ⟨k, by omega, ?_, ?_⟩
          · rw [hB8, pk_un ek] at k2; exact k2
          · rw [hm _ (by omega) (by omega) (by omega)] at k3; exact k3
      · rintro (⟨k, k1, k2, k3⟩ | ⟨rfl, rfl⟩)
        · exact ⟨k, by omega, by rw [hB8, pk_un (by omega)]; exact k2, by rw [hm _ (by omega) (by omega) (by omega)]; exact k3⟩
        · exact ⟨nst N, by omega, by rw [hB8, pk_us], hw⟩
    rw [e, k4 v]
    by_cases el : l' = l
    · subst el
      rw [va_up_self, List.mem_append, List.mem_singleton]
      simp
    · rw [va_up_ne _ _ el]
      simp [el]
theorem stpF_le (N : tx_N) {l : Nat} (hl : l < 3) (ws : Nat → List Nat) : ∀ k, nst (stpF N l ws k).1 = nst N + (stpF N l ws k).2 ∧ (stpF N l ws k).2 ≤ k
  | 0 => ⟨rfl, Nat.le_refl _⟩
  | k + 1 => by
    obtain ⟨i1, i2⟩ := stpF_le N hl ws k
    rw [stpF]
    by_cases q : ws k ∈ (stpF N l ws k).1.1 l
    · rw [ifp_t q]; exact ⟨i1, by omega⟩
    · rw [ifp_f q]
      refine ⟨?_, by show (stpF N l ws k).2 + 1 ≤ k + 1; omega⟩
      rw [nst_up (N := (stpF N l ws k).1) hl, i1]
      rfl
theorem nE_none {N : tx_N} {l : Nat} {w : List Nat} : nE N l w = none ↔ w ∈ N.1 l := by
  rw [nE]
  by_cases q : w ∈ N.1 l
  · rw [ifp_t q]; exact ⟨fun _ => q, fun _ => rfl⟩
  · rw [ifp_f q]; exact ⟨fun h => by simp at h, fun h => absurd h q⟩
section MSTOP
variable {T : Nat → am_C} {D : List am_C} {S : Nat → Int64}
theorem l_rdZ {Z : tx_Z} {I I' : Nat → Int32} {B B' : Nat → Nat → Int32} {μ μ' : Nat → List Nat} (hZ : tx_m Z I B S μ) (h0 : I' 0 = 0) (hr : rwk I B μ I' B' μ') : tx_m (z0 Z) I' B' S μ' := by
  obtain ⟨h1, h2, h3, h4, h5, h6, h7⟩ := hZ
  obtain ⟨r1, r2, r3, r4⟩ := hr
  exact ⟨r3, ⟨h0, by show 0 ≤ 96; omega, fun j hj => absurd hj (Nat.not_lt_zero j)⟩, h3.keep (r1 3 (by decide) (by decide)) (r2 8 (by decide) (by decide) (by decide)) (r2 9 (by decide) (by decide) (by decide)) (fun a _ b => r4 a (Or.inl b)), h4.keep (r1 1 (by decide) (by decide)) (r1 2 (by decide) (by decide)) (fun i a b => r2 i (by omega) (by omega) (by omega)) (fun a b => r4 a (Or.inl (by omega))), h5.keep (r1 9 (by decide) (by decide)) (r2 16 (by decide) (by decide) (by decide)), h6.keep (r1 10 (by decide) (by decide)) (fun a b c => r4 a (Or.inr (by omega))), h7.keep (r1 11 (by decide) (by decide)) (r2 18 (by decide) (by decide) (by decide))⟩
theorem mtap.keep {I I' : Nat → Int32} {B B' : Nat → Nat → Int32} {μ μ' : Nat → List Nat} {z : wS} (h : mtap I B μ z) (hz : z.1 ≤ 48) (h4 : I' 4 = I 4) (h10 : B' 10 = B 10) (h11 : B' 11 = B 11) (hm : ∀ a, 3968 ≤ a → a < 4016 → μ' a = μ a) : mtap I' B' μ' z := by
  obtain ⟨a1, a2⟩ := h
  refine ⟨h4.trans a1, fun i hi => ?_⟩
  obtain ⟨b1, b2, b3⟩ := a2 i hi
  exact ⟨by rw [hm _ (by omega) (by omega)]; exact b1, by rw [h10]; exact b2, by rw [h11]; exact b3⟩
theorem zw48 {Z : tx_Z} (h : (zP Z).2 ≤ 96) : (zw Z).1 ≤ 48 := by
  have := wst_len (zP Z).1 (zP Z).2
  rw [zw]
  cases q : (wst (zP Z).1 (zP Z).2).2.1 with
  | true => have := (this.1 q).1; omega
  | false => have := this.2 q; omega
theorem l_stop17 {Z : tx_Z} {l : Nat} {z : wS} (hl : l < 3) (hz : z.1 ≤ 48) (hroom : nst (zN Z) + 48 ≤ 2000) : ∀ (d k : Nat) (I : Nat → Int32) (B : Nat → Nat → Int32) (μ : Nat → List Nat), tx_m (zP Z, (stpF (zN Z) l z.2.2.1 k).1, Z.2.2) I B S μ → mtap I B μ z → z.1 = k + d →
    Go m_Mo_stop 17 [some (.ref 48), some (.int (nI l)), some (.int (nI (stpF (zN Z) l z.2.2.1 k).2)), some (.int (nI k))] [] (hM T I B S D) (fun r h' => r = some (.int (nI (stpF (zN Z) l z.2.2.1 z.1).2)) ∧ ∃ I' B' μ', h' = hM T I' B' S D ∧ tx_m (zP Z, (stpF (zN Z) l z.2.2.1 z.1).1, Z.2.2) I' B' S μ') := by
  intro d
  induction d with
  | zero =>
    intro k I B μ hZ hm hk
    have ek : k = z.1 := by omega
    subst ek
    iterate 3 refine go_s rfl rfl rfl trivial ?_
    rw [hm.1]
    iterate 1 refine go_s rfl rfl rfl trivial ?_
    refine go_if (fun hc => ?_) (fun hc => ?_)
    · iterate 1 refine go_s rfl rfl rfl trivial ?_
      exact go_r rfl rfl rfl trivial ⟨rfl, I, B, μ, rfl, hZ⟩
    · exact absurd (Int32.le_refl _) hc
  | succ d ih =>
    intro k I B μ hZ hm hk
    obtain ⟨h1, h2, h3, h4, h5, h6, h7⟩ := id hZ
    obtain ⟨m1, m2, m3⟩ := hm.2 k (by omega)
    have ek : (3968 : Int32) + nI k = nI (3968 + k) := by rw [show (3968 : Int32) = nI 3968 from rfl, nI_add]
    obtain ⟨s1, s2⟩ := stpF_le (zN Z) hl z.2.2.1 k
    have e0 : stpF (zN Z) l z.2.2.1 (k + 1) = ifp (z.2.2.1 k ∈ (stpF (zN Z) l z.2.2.1 k).1.1 l) (stpF (zN Z) l z.2.2.1 k) ((va_up (stpF (zN Z) l z.2.2.1 k).1.1 l ((stpF (zN Z) l z.2.2.1 k).1.1 l ++ [z.2.2.1 k]), (stpF (zN Z) l z.2.2.1 k).1.2), (stpF (zN Z) l z.2.2.1 k).2 + 1) := rfl
    iterate 3 refine go_s rfl rfl rfl trivial ?_
    rw [hm.1]
    iterate 1 refine go_s rfl rfl rfl trivial ?_
    refine go_if (fun hc => ?_) (fun hc => ?_)
    · exact absurd hc (nI_ge (by omega) (by omega))
    · iterate 5 refine go_s rfl rfl rfl trivial ?_
      rw [ek]
      refine go_c rfl rfl rfl (c_isStop_E h1 h3.env (a := 3968 + k) (by omega) hl) ?_
      rintro r h0 ⟨rfl, rfl⟩
      iterate 1 refine go_s rfl rfl rfl trivial ?_
      refine go_if (fun hc => ?_) (fun hc => ?_)
      · have hno : ¬ z.2.2.1 k ∈ (stpF (zN Z) l z.2.2.1 k).1.1 l := fun q => by
          rw [m1, b01_t (nE_none.mpr q)] at hc
          exact absurd hc (by decide)
        rw [ifp_f hno] at e0
        have en : I 3 = nI (nst (stpF (zN Z) l z.2.2.1 k).1) := h3.1
        have cn : (nI (nst (stpF (zN Z) l z.2.2.1 k).1)).toNatClampNeg = nst (stpF (zN Z) l z.2.2.1 k).1 := nI_clamp (by omega)
        iterate 5 refine go_s rfl rfl rfl trivial ?_
        rw [en]
        refine go_s rfl rfl rfl ?_ ?_
        · exact vp_in_nI (by omega) (by omega)
        simp only [cn]
        iterate 8 refine go_s rfl rfl rfl trivial ?_
        rw [ek, en, show (1920 : Int32) + nI (nst (stpF (zN Z) l z.2.2.1 k).1) = nI (1920 + nst (stpF (zN Z) l z.2.2.1 k).1) by rw [show (1920 : Int32) = nI 1920 from rfl, nI_add]]
        refine go_c rfl rfl rfl (c_copy (B := va_up B 8 (upd (B 8) (nst (stpF (zN Z) l z.2.2.1 k).1) (nI l))) (h1.keep2 rfl rfl) (a := 3968 + k) (b := 1920 + nst (stpF (zN Z) l z.2.2.1 k).1) (by omega) (by omega) (by omega)) ?_
        rintro r h0 ⟨rfl, B1, rfl, hs1, hw1⟩
        rw [m1] at hw1
        iterate 9 refine go_s rfl rfl rfl trivial ?_
        rw [nI_1, en, nI_1, nI_1]
        have kB : ∀ i, 2 ≤ i → i ≠ 8 → B1 i = B i := fun i h2 h8 => (hs1 i h2).trans (va_up_ne _ _ h8)
        have kI : ∀ i, i ≠ 3 → va_up I 3 (nI (nst (stpF (zN Z) l z.2.2.1 k).1 + 1)) i = I i := fun i hi => va_up_ne _ _ hi
        have km : ∀ a, a ≠ 1920 + nst (stpF (zN Z) l z.2.2.1 k).1 → va_up μ (1920 + nst (stpF (zN Z) l z.2.2.1 k).1) (z.2.2.1 k) a = μ a := fun a ha => va_up_ne _ _ ha
        have := ih (k + 1) (va_up I 3 (nI (nst (stpF (zN Z) l z.2.2.1 k).1 + 1))) B1 _ (by
          rw [e0]
          refine ⟨hw1, h2.keep (kI 0 (by decide)) (kB 2 (by decide) (by decide)), ?_, h4.keep (kI 1 (by decide)) (kI 2 (by decide)) (fun i a b => kB i (by omega) (by omega)) (fun a b => km a (by omega)), h5.keep (kI 9 (by decide)) (kB 16 (by decide) (by decide)), h6.keep (kI 10 (by decide)) (fun a b c => km a (by omega)), h7.keep (kI 11 (by decide)) (kB 18 (by decide) (by decide))⟩
          exact gN_add h3 hl (by show nst (stpF (zN Z) l z.2.2.1 k).1 + 1 ≤ 2000; omega) (va_up_self _ _ _) ((hs1 8 (by decide)).trans (va_up_self _ _ _)) (kB 9 (by decide) (by decide)) (fun a _ _ hne => km a hne) (va_up_self _ _ _)) (hm.keep hz (kI 4 (by decide)) (kB 10 (by decide) (by decide)) (kB 11 (by decide) (by decide)) (fun a b c => km a (by omega))) (by omega)
        rw [show (stpF (zN Z) l z.2.2.1 (k + 1)).2 = (stpF (zN Z) l z.2.2.1 k).2 + 1 by rw [e0]] at this
        exact this
      · have hyes : z.2.2.1 k ∈ (stpF (zN Z) l z.2.2.1 k).1.1 l := by
          rw [m1] at hc
          exact nE_none.mp (Classical.not_not.mp fun q => hc (b01_f q))
        rw [ifp_t hyes] at e0
        iterate 3 refine go_s rfl rfl rfl trivial ?_
        rw [nI_1]
        have := ih (k + 1) I B μ (by rw [e0]; exact hZ) hm (by omega)
        rw [e0] at this
        exact this
theorem c_stop {Z : tx_Z} {I : Nat → Int32} {B : Nat → Nat → Int32} {μ : Nat → List Nat} (hZ : tx_m Z I B S μ) (hroom : nst (zN Z) + 48 ≤ 2000) (x : Int32) : Do m_Mo_stop [.ref 48, .int x] (hM T I B S D) (fun r h' => r = some (.int (spStop Z x).1) ∧ ∃ I' B' μ', h' = hM T I' B' S D ∧ tx_m (spStop Z x).2 I' B' S μ') := by
  iterate 1 refine go_s rfl rfl rfl trivial ?_
  refine go_c rfl rfl rfl (c_isLanguage _ x) ?_
  rintro r h3 ⟨rfl, rfl⟩
  iterate 1 refine go_s rfl rfl rfl trivial ?_
  refine go_if (fun hc => ?_) (fun hc => ?_)
  · have hq : isL x := Classical.not_not.mp fun q => hc (b01_f q)
    obtain ⟨l, hl, rfl⟩ := isL_nat hq
    have cl : (nI l).toNatClampNeg = l := nI_clamp (by omega)
    rw [spStop, ifp_t hq, cl]
    iterate 1 refine go_s rfl rfl rfl trivial ?_
    refine go_c rfl rfl rfl (c_readWords hZ.1 hZ.2.1) ?_
    rintro r h3 ⟨rfl, I1, B1, μ1, rfl, hI0, hm1, hr1⟩
    iterate 4 refine go_s rfl rfl rfl trivial ?_
    exact l_stop17 (Z := z0 Z) hl (zw48 hZ.2.1.2.1) hroom (zw Z).1 0 I1 B1 μ1 (l_rdZ hZ hI0 hr1) hm1 (by omega)
  · have hq : ¬ isL x := fun q => hc (by rw [b01_t q]; decide)
    rw [spStop, ifp_f hq]
    iterate 1 refine go_s rfl rfl rfl trivial ?_
    exact go_r rfl rfl rfl trivial ⟨rfl, I, B, μ, rfl, hZ⟩
theorem c_stem {Z : tx_Z} {I : Nat → Int32} {B : Nat → Nat → Int32} {μ : Nat → List Nat} (hZ : tx_m Z I B S μ) (x : Int32) : Do m_Mo_stem [.ref 48, .int x] (hM T I B S D) (fun r h' => r = some (.int (spStem Z x).1) ∧ ∃ I' B' μ', h' = hM T I' B' S D ∧ tx_m (spStem Z x).2 I' B' S μ') := by
  iterate 1 refine go_s rfl rfl rfl trivial ?_
  refine go_c rfl rfl rfl (c_isLanguage _ x) ?_
  rintro r h3 ⟨rfl, rfl⟩
  iterate 1 refine go_s rfl rfl rfl trivial ?_
  refine go_if (fun hc => ?_) (fun hc => ?_)
  · have hq : isL x := Classical.not_not.mp fun q => hc (b01_f q)
    obtain ⟨l, hl, rfl⟩ := isL_nat hq
    have cl : (nI l).toNatClampNeg = l := nI_clamp (by omega)
    rw [spStem, ifp_t hq, cl]
    iterate 1 refine go_s rfl rfl rfl trivial ?_
    refine go_c rfl rfl rfl (c_readWords hZ.1 hZ.2.1) ?_
    rintro r h3 ⟨rfl, I1, B1, μ1, rfl, hI0, hm1, hr1⟩
    have hZ1 := l_rdZ hZ hI0 hr1
    have hz48 := zw48 hZ.2.1.2.1
    obtain ⟨h1, h2, h3, h4, h5, h6, h7⟩ := id hZ1
    have e0 : I1 4 = nI (zw Z).1 := hm1.1
    iterate 2 refine go_s rfl rfl rfl trivial ?_
    rw [e0]
    iterate 1 refine go_s rfl rfl rfl trivial ?_
    refine go_if (fun hc => ?_) (fun hc => ?_)
    · have hne : ¬ (zw Z).1 = 0 := fun q => hc (by rw [q]; rfl)
      rw [if_neg hne]
      have ew : μ1 3968 = (zw Z).2.2.1 0 := (hm1.2 0 (by show 0 < (zw Z).1; omega)).1
      obtain ⟨n1, n2, n3, n4⟩ := h3.2.2 l hl
      iterate 4 refine go_s rfl rfl rfl trivial ?_
      refine go_c rfl rfl rfl (c_stemTo h1 hl (a := 3968) (to := 6032) (by omega) (by omega) (by omega) (Or.inr (by omega)) n1 n2) ?_
      rintro r h0 ⟨rfl, B2, rfl, hs2, hw2⟩
      rw [n3, ew] at hw2
      iterate 2 refine go_s rfl rfl rfl trivial ?_
      refine go_c rfl rfl rfl (c_show hw2 (a := 6032) (by omega)) ?_
      rintro r h0 ⟨rfl, B3, rfl, hB3, hs3⟩
      rw [va_up_self] at hs3 ⊢
      have kB : ∀ i, 2 ≤ i → i ≠ 18 → B3 i = B1 i := fun i a b => (hB3 i b).trans (hs2 i a)
      refine go_r rfl rfl rfl trivial ⟨rfl, _, B3, _, rfl, hw2.keep2 (hB3 0 (by decide)) (hB3 1 (by decide)), h2.keep rfl (kB 2 (by decide) (by decide)), h3.keep rfl (kB 8 (by decide) (by decide)) (kB 9 (by decide) (by decide)) (fun a _ b => va_up_ne _ _ (by omega)), h4.keep rfl rfl (fun i a b => kB i (by omega) (by omega)) (fun a b => va_up_ne _ _ (by omega)), h5.keep rfl (kB 16 (by decide) (by decide)), h6.keep rfl (fun a b c => va_up_ne _ _ (by omega)), hs3⟩
    · have he : (zw Z).1 = 0 := nI_inj (by omega) (by omega) (Classical.not_not.mp hc)
      rw [if_pos he]
      iterate 1 refine go_s rfl rfl rfl trivial ?_
      exact go_r rfl rfl rfl trivial ⟨rfl, I1, B1, μ1, rfl, hZ1⟩
  · have hq : ¬ isL x := fun q => hc (by rw [b01_t q]; decide)
    rw [spStem, ifp_f hq]
    iterate 1 refine go_s rfl rfl rfl trivial ?_
    exact go_r rfl rfl rfl trivial ⟨rfl, I, B, μ, rfl, hZ⟩
end MSTOP
