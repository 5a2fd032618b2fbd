/-! ===== the reference: how many changes; which word comes first ===== -/
def lvR (u v : List Nat) (i : Nat) (prev : Nat → Nat) : Nat → Nat
  | 0 => i + 1
  | j + 1 => min (min (prev j + (if u.getD i 0 = v.getD j 0 then 0 else 1)) (prev (j + 1) + 1)) (lvR u v i prev j + 1)
/-- how many changes make the first i bytes of u the first j of v -/
def lev (u v : List Nat) : Nat → Nat → Nat
  | 0 => fun j => j
  | i + 1 => lvR u v i (lev u v i)
theorem lev_ss (u v : List Nat) (i j : Nat) : lev u v (i + 1) (j + 1) = min (min (lev u v i j + (if u.getD i 0 = v.getD j 0 then 0 else 1)) (lev u v i (j + 1) + 1)) (lev u v (i + 1) j + 1) := rfl
theorem lev_s0 (u v : List Nat) (i : Nat) : lev u v (i + 1) 0 = i + 1 := rfl
theorem lev_0 (u v : List Nat) (j : Nat) : lev u v 0 j = j := rfl
theorem lev_le (u v : List Nat) : ∀ i j, lev u v i j ≤ i + j
  | 0, j => by rw [lev_0]; omega
  | i + 1, 0 => by rw [lev_s0]; omega
  | i + 1, j + 1 => by
    have := lev_le u v (i + 1) j
    rw [lev_ss]
    omega
theorem lev_sym (u v : List Nat) : ∀ i j, lev u v i j = lev v u j i := by
  intro i
  induction i with
  | zero =>
    intro j
    cases j with
    | zero => rfl
    | succ j => rfl
  | succ i ih =>
    intro j
    induction j with
    | zero => rfl
    | succ j ih2 =>
      rw [lev_ss, lev_ss, ih j, ih (j + 1), ih2]
      have e : (if u.getD i 0 = v.getD j 0 then 0 else 1) = (if v.getD j 0 = u.getD i 0 then 0 else 1) := by
        by_cases q : u.getD i 0 = v.getD j 0
        · rw [if_pos q, if_pos q.symm]
        · rw [if_neg q, if_neg (fun h => q h.symm)]
      rw [e]
      omega
/-- the bytes of one word stand before those of another -/
def ltW (u v : List Nat) : Prop := ∃ k, (∀ j, j < k → u.getD j 0 = v.getD j 0) ∧ ((k < u.length ∧ k < v.length ∧ u.getD k 0 < v.getD k 0) ∨ (k = u.length ∧ k < v.length))
theorem ltW_at {u v : List Nat} {k : Nat} (h : ∀ j, j < k → u.getD j 0 = v.getD j 0) (hu : k < u.length) (hv : k < v.length) (hne : u.getD k 0 ≠ v.getD k 0) : ltW u v ↔ u.getD k 0 < v.getD k 0 := by
  constructor
  · rintro ⟨k', h1, h2⟩
    rcases Nat.lt_trichotomy k' k with q | q | q
    · have := h k' q
      rcases h2 with ⟨_, _, h3⟩ | ⟨h3, _⟩
      · omega
      · omega
    · subst q
      rcases h2 with ⟨_, _, h3⟩ | ⟨h3, _⟩
      · exact h3
      · omega
    · exact absurd (h1 k q) hne
  · intro q
    exact ⟨k, h, Or.inl ⟨hu, hv, q⟩⟩
theorem ltW_end {u v : List Nat} {k : Nat} (h : ∀ j, j < k → u.getD j 0 = v.getD j 0) (hk : k = u.length ∨ k = v.length) (hu : k ≤ u.length) (hv : k ≤ v.length) : ltW u v ↔ u.length < v.length := by
  constructor
  · rintro ⟨k', h1, h2⟩
    rcases h2 with ⟨h3, h4, h5⟩ | ⟨h3, h4⟩
    · have : k' < k := by omega
      have := h k' this
      omega
    · omega
  · intro q
    exact ⟨k, h, Or.inr ⟨by omega, by omega⟩⟩
section MLIKE1
variable {T : Nat → am_C} {D : List am_C} {I : Nat → Int32} {S : Nat → Int64} {K : Option Value → List am_C → Prop}
/-- the table as far as it is filled: rows before i, of row i the columns before k -/
def tabS (B : Nat → Nat → Int32) (u v : List Nat) (i k : Nat) : Prop := ∀ i' k', i' < 13 → k' ≤ v.length → (i' < i ∨ (i' = i ∧ k' < k)) → B 19 (13 * i' + k') = nI (lev u v i' k')
theorem l_di159 {a b i k : Nat} {u v : List Nat} {X6 X7 X8 : Option Value} {B : Nat → Nat → Int32} (hv : v.length ≤ 12) (hi : i < 13) (hk : k ≤ v.length) (ht : tabS B u v i k)
    (kk : ∀ B', (∀ j, j ≠ 19 → B' j = B j) → tabS B' u v i (k + 1) → Go m_Mo_distance 15 [some (.ref 48), some (.int (nI a)), some (.int (nI b)), some (.int (nI i)), some (.int (nI (k + 1))), some (.int (nI (lev u v i k))), X6, X7, X8] [] (hM T I B' S D) K) :
    Go m_Mo_distance 159 [some (.ref 48), some (.int (nI a)), some (.int (nI b)), some (.int (nI i)), some (.int (nI k)), some (.int (nI (lev u v i k))), X6, X7, X8] [] (hM T I B S D) K := by
  have e13 : (13 : Int32) * nI i + nI k = nI (13 * i + k) := by rw [show (13 : Int32) = nI 13 from rfl, pk_mul, nI_add]
  have c13 : (nI (13 * i + k)).toNatClampNeg = 13 * i + k := nI_clamp (by omega)
  iterate 8 refine go_s rfl rfl rfl trivial ?_
  rw [e13]
  refine go_s rfl rfl rfl ?_ ?_
  · exact vp_in_nI (by omega) (by omega)
  simp only [c13]
  iterate 2 refine go_s rfl rfl rfl trivial ?_
  rw [nI_1]
  refine kk (va_up B 19 (upd (B 19) (13 * i + k) (nI (lev u v i k)))) (fun j hj => va_up_ne _ _ hj) (fun i' k' h1 h2 h3 => ?_)
  rw [va_up_self]
  by_cases e : i' = i ∧ k' = k
  · rw [e.1, e.2, pk_us]
  · rw [pk_un (by omega)]
    exact ht i' k' h1 h2 (by omega)
theorem l_di90 {a b i k o : Nat} {u v : List Nat} {X5 X7 X8 : Option Value} {B : Nat → Nat → Int32} (hu : u.length ≤ 12) (hv : v.length ≤ 12) (hi : i + 1 < 13) (hk : k + 1 ≤ v.length) (ht : tabS B u v (i + 1) (k + 1)) (ho : o = lev u v i k + (if u.getD i 0 = v.getD k 0 then 0 else 1))
    (kk : ∀ X6 X7 X8, Go m_Mo_distance 159 [some (.ref 48), some (.int (nI a)), some (.int (nI b)), some (.int (nI (i + 1))), some (.int (nI (k + 1))), some (.int (nI (lev u v (i + 1) (k + 1)))), X6, X7, X8] [] (hM T I B S D) K) :
    Go m_Mo_distance 90 [some (.ref 48), some (.int (nI a)), some (.int (nI b)), some (.int (nI (i + 1))), some (.int (nI (k + 1))), X5, some (.int (nI o)), X7, X8] [] (hM T I B S D) K := by
  have e1 : (13 : Int32) * nI (i + 1) + nI (k + 1) - 13 = nI (13 * i + (k + 1)) := by
    rw [show (13 : Int32) = nI 13 from rfl, pk_mul, nI_add, pk_sub (by omega)]
    congr 1
    omega
  have e2 : (13 : Int32) * nI (i + 1) + nI (k + 1) - 1 = nI (13 * (i + 1) + k) := by
    rw [show (13 : Int32) = nI 13 from rfl, show (1 : Int32) = nI 1 from rfl, pk_mul, nI_add, pk_sub (by omega)]
    congr 1
  have c1 : (nI (13 * i + (k + 1))).toNatClampNeg = 13 * i + (k + 1) := nI_clamp (by omega)
  have c2 : (nI (13 * (i + 1) + k)).toNatClampNeg = 13 * (i + 1) + k := nI_clamp (by omega)
  have t1 : B 19 (13 * i + (k + 1)) = nI (lev u v i (k + 1)) := ht i (k + 1) (by omega) hk (by omega)
  have t2 : B 19 (13 * (i + 1) + k) = nI (lev u v (i + 1) k) := ht (i + 1) k (by omega) (by omega) (by omega)
  have l1 := lev_le u v i (k + 1)
  have l2 := lev_le u v (i + 1) k
  have l3 := lev_le u v i k
  have ho2 : o ≤ lev u v i k + 1 := by
    rw [ho]
    split <;> omega
  iterate 9 refine go_s rfl rfl rfl trivial ?_
  rw [e1]
  refine go_s rfl rfl rfl ?_ ?_
  · exact vp_in_nI (by omega) (by omega)
  simp only [c1, t1]
  iterate 2 refine go_s rfl rfl rfl trivial ?_
  rw [nI_1]
  iterate 1 refine go_s rfl rfl rfl trivial ?_
  iterate 9 refine go_s rfl rfl rfl trivial ?_
  rw [e2]
  refine go_s rfl rfl rfl ?_ ?_
  · exact vp_in_nI (by omega) (by omega)
  simp only [c2, t2]
  iterate 2 refine go_s rfl rfl rfl trivial ?_
  rw [nI_1]
  iterate 1 refine go_s rfl rfl rfl trivial ?_
  have fin : ∀ m, m = min o (lev u v i (k + 1) + 1) → Go m_Mo_distance 141 [some (.ref 48), some (.int (nI a)), some (.int (nI b)), some (.int (nI (i + 1))), some (.int (nI (k + 1))), X5, some (.int (nI o)), some (.int (nI (lev u v i (k + 1) + 1))), some (.int (nI (lev u v (i + 1) k + 1)))] [.int (nI m)] (hM T I B S D) K := by
    intro m hm
    have key : ∀ z, z = min m (lev u v (i + 1) k + 1) → lev u v (i + 1) (k + 1) = z := by
      intro z hz
      rw [lev_ss, ← ho, hz, hm]
    iterate 4 refine go_s rfl rfl rfl trivial ?_
    refine go_if (fun hc => ?_) (fun hc => ?_)
    · have := (nI_leI (by omega) (by omega)).mp hc
      iterate 2 refine go_s rfl rfl rfl trivial ?_
      rw [← key (lev u v (i + 1) k + 1) (by omega)]
      exact kk _ _ _
    · have : ¬ lev u v (i + 1) k + 1 ≤ m := fun q => hc ((nI_leI (by omega) (by omega)).mpr q)
      iterate 3 refine go_s rfl rfl rfl trivial ?_
      rw [← key m (by omega)]
      exact kk _ _ _
  iterate 3 refine go_s rfl rfl rfl trivial ?_
  refine go_if (fun hc => ?_) (fun hc => ?_)
  · have := (nI_leI (by omega) (by omega)).mp hc
    iterate 1 refine go_s rfl rfl rfl trivial ?_
    exact fin _ (by omega)
  · have : ¬ lev u v i (k + 1) + 1 ≤ o := fun q => hc ((nI_leI (by omega) (by omega)).mpr q)
    iterate 2 refine go_s rfl rfl rfl trivial ?_
    exact fin _ (by omega)
theorem l_di15 {a b i : Nat} {μ : Nat → List Nat} (ha : a < 6034) (hb : b < 6034) (hi : i ≤ (μ a).length) : ∀ (d k : Nat) (X5 X6 X7 X8 : Option Value) (B : Nat → Nat → Int32), wm B μ → (μ b).length + 1 = k + d → tabS B (μ a) (μ b) i k →
    (∀ (B' : Nat → Nat → Int32) (X4 X5 X6 X7 X8 : Option Value), (∀ j, j ≠ 19 → B' j = B j) → tabS B' (μ a) (μ b) (i + 1) 0 → Go m_Mo_distance 179 [some (.ref 48), some (.int (nI a)), some (.int (nI b)), some (.int (nI i)), X4, X5, X6, X7, X8] [] (hM T I B' S D) K) →
    Go m_Mo_distance 15 [some (.ref 48), some (.int (nI a)), some (.int (nI b)), some (.int (nI i)), some (.int (nI k)), X5, X6, X7, X8] [] (hM T I B S D) K := by
  have cb : (nI b).toNatClampNeg = b := nI_clamp (by omega)
  intro d
  induction d with
  | zero =>
    intro k X5 X6 X7 X8 B hw hd ht kk
    obtain ⟨b12, bL, -, -⟩ := hw b hb
    iterate 4 refine go_s rfl rfl rfl trivial ?_
    refine go_s rfl rfl rfl ?_ ?_
    · exact vp_in_nI hb (by omega)
    simp only [cb, bL]
    iterate 1 refine go_s rfl rfl rfl trivial ?_
    refine go_if (fun _ => ?_) (fun hc => absurd ((nI_ltI (by omega) (by omega)).mpr (by omega)) hc)
    exact kk B _ _ _ _ _ (fun _ _ => rfl) (fun i' k' h1 h2 h3 => ht i' k' h1 h2 (by omega))
  | succ d ih =>
    intro k X5 X6 X7 X8 B hw hd ht kk
    obtain ⟨a12, aL, -, -⟩ := hw a ha
    obtain ⟨b12, bL, -, -⟩ := hw b hb
    have fin : ∀ X6 X7 X8, Go m_Mo_distance 159 [some (.ref 48), some (.int (nI a)), some (.int (nI b)), some (.int (nI i)), some (.int (nI k)), some (.int (nI (lev (μ a) (μ b) i k))), X6, X7, X8] [] (hM T I B S D) K := by
      intro X6 X7 X8
      refine l_di159 b12 (by omega) (by omega) ht (fun B' hB ht' => ?_)
      exact ih (k + 1) _ _ _ _ B' (hw.keep2 (hB 0 (by decide)) (hB 1 (by decide))) (by omega) ht' (fun B2 X4 X5 X6 X7 X8 hB2 h => kk B2 X4 X5 X6 X7 X8 (fun j hj => (hB2 j hj).trans (hB j hj)) h)
    iterate 4 refine go_s rfl rfl rfl trivial ?_
    refine go_s rfl rfl rfl ?_ ?_
    · exact vp_in_nI hb (by omega)
    simp only [cb, bL]
    iterate 1 refine go_s rfl rfl rfl trivial ?_
    refine go_if (fun hc => absurd ((nI_ltI (by omega) (by omega)).mp hc) (by omega)) (fun _ => ?_)
    iterate 2 refine go_s rfl rfl rfl trivial ?_
    cases i with
    | zero =>
      refine go_if (fun hc => absurd rfl hc) (fun _ => ?_)
      iterate 5 refine go_s rfl rfl rfl trivial ?_
      refine go_if (fun _ => ?_) (fun hc => absurd (by decide) hc)
      exact fin _ _ _
    | succ i =>
      refine go_if (fun _ => ?_) (fun hc => absurd (Classical.not_not.mp hc) (nI_ne0 (by omega) (by omega)))
      iterate 4 refine go_s rfl rfl rfl trivial ?_
      refine go_if (fun hc => absurd hc (nI_nle (by omega) (by omega))) (fun _ => ?_)
      iterate 2 refine go_s rfl rfl rfl trivial ?_
      cases k with
      | zero =>
        refine go_if (fun _ => ?_) (fun hc => absurd (by decide) hc)
        exact fin _ _ _
      | succ k =>
        refine go_if (fun hc => absurd hc (nI_nle (by omega) (by omega))) (fun _ => ?_)
        have e0 : (13 : Int32) * nI (i + 1) + nI (k + 1) - 14 = nI (13 * i + k) := by
          rw [show (13 : Int32) = nI 13 from rfl, show (14 : Int32) = nI 14 from rfl, pk_mul, nI_add, pk_sub (by omega)]
          congr 1
          omega
        have c0 : (nI (13 * i + k)).toNatClampNeg = 13 * i + k := nI_clamp (by omega)
        have t0 : B 19 (13 * i + k) = nI (lev (μ a) (μ b) i k) := ht i k (by omega) (by omega) (by omega)
        have l3 := lev_le (μ a) (μ b) i k
        iterate 9 refine go_s rfl rfl rfl trivial ?_
        rw [e0]
        refine go_s rfl rfl rfl ?_ ?_
        · exact vp_in_nI (by omega) (by omega)
        simp only [c0, t0]
        iterate 5 refine go_s rfl rfl rfl trivial ?_
        rw [nI_pred]
        refine go_c rfl rfl rfl (c_byteOf_w hw ha (k := i) (by omega)) ?_
        rintro r h3 ⟨rfl, rfl⟩
        iterate 5 refine go_s rfl rfl rfl trivial ?_
        rw [nI_pred]
        refine go_c rfl rfl rfl (c_byteOf_w hw hb (k := k) (by omega)) ?_
        rintro r h3 ⟨rfl, rfl⟩
        have la := hw.at_lt (k := i) ha
        have lb := hw.at_lt (k := k) hb
        iterate 1 refine go_s rfl rfl rfl trivial ?_
        refine go_if (fun hc => ?_) (fun hc => ?_)
        · have hne : ¬ (μ a).getD i 0 = (μ b).getD k 0 := fun q => hc (by rw [q])
          iterate 2 refine go_s rfl rfl rfl trivial ?_
          rw [nI_1]
          iterate 1 refine go_s rfl rfl rfl trivial ?_
          exact l_di90 a12 b12 (by omega) (by omega) ht (by rw [if_neg hne]) fin
        · have heq : (μ a).getD i 0 = (μ b).getD k 0 := nI_inj (by omega) (by omega) (Classical.not_not.mp hc)
          iterate 3 refine go_s rfl rfl rfl trivial ?_
          rw [show nI (lev (μ a) (μ b) i k) + 0 = nI (lev (μ a) (μ b) i k) from nI_add _ 0]
          iterate 1 refine go_s rfl rfl rfl trivial ?_
          exact l_di90 a12 b12 (by omega) (by omega) ht (by rw [if_pos heq]; rfl) fin
theorem l_di2 {a b : Nat} {μ : Nat → List Nat} (ha : a < 6034) (hb : b < 6034) : ∀ (d i : Nat) (X4 X5 X6 X7 X8 : Option Value) (B : Nat → Nat → Int32), wm B μ → (μ a).length + 1 = i + d → tabS B (μ a) (μ b) i 0 →
    Go m_Mo_distance 2 [some (.ref 48), some (.int (nI a)), some (.int (nI b)), some (.int (nI i)), X4, X5, X6, X7, X8] [] (hM T I B S D) (fun r h' => r = some (.int (nI (lev (μ a) (μ b) (μ a).length (μ b).length))) ∧ ∃ B', h' = hM T I B' S D ∧ ∀ j, j ≠ 19 → B' j = B j) := by
  have ca : (nI a).toNatClampNeg = a := nI_clamp (by omega)
  have cb : (nI b).toNatClampNeg = b := nI_clamp (by omega)
  intro d
  induction d with
  | zero =>
    intro i X4 X5 X6 X7 X8 B hw hd ht
    obtain ⟨a12, aL, -, -⟩ := hw a ha
    obtain ⟨b12, bL, -, -⟩ := hw b hb
    have t0 : B 19 (13 * (μ a).length + (μ b).length) = nI (lev (μ a) (μ b) (μ a).length (μ b).length) := ht _ _ (by omega) (Nat.le_refl _) (by omega)
    have c0 : (nI (13 * (μ a).length + (μ b).length)).toNatClampNeg = 13 * (μ a).length + (μ b).length := nI_clamp (by omega)
    have e0 : (13 : Int32) * nI (μ a).length + nI (μ b).length = nI (13 * (μ a).length + (μ b).length) := by rw [show (13 : Int32) = nI 13 from rfl, pk_mul, nI_add]
    iterate 4 refine go_s rfl rfl rfl trivial ?_
    refine go_s rfl rfl rfl ?_ ?_
    · exact vp_in_nI ha (by omega)
    simp only [ca, aL]
    iterate 1 refine go_s rfl rfl rfl trivial ?_
    refine go_if (fun _ => ?_) (fun hc => absurd ((nI_ltI (by omega) (by omega)).mpr (by omega)) hc)
    iterate 6 refine go_s rfl rfl rfl trivial ?_
    refine go_s rfl rfl rfl ?_ ?_
    · exact vp_in_nI ha (by omega)
    simp only [ca, aL]
    iterate 4 refine go_s rfl rfl rfl trivial ?_
    refine go_s rfl rfl rfl ?_ ?_
    · exact vp_in_nI hb (by omega)
    simp only [cb, bL]
    iterate 1 refine go_s rfl rfl rfl trivial ?_
    rw [e0]
    refine go_s rfl rfl rfl ?_ ?_
    · exact vp_in_nI (by omega) (by omega)
    simp only [c0, t0]
    exact go_r rfl rfl rfl trivial ⟨rfl, B, rfl, fun _ _ => rfl⟩
  | succ d ih =>
    intro i X4 X5 X6 X7 X8 B hw hd ht
    obtain ⟨a12, aL, -, -⟩ := hw a ha
    iterate 4 refine go_s rfl rfl rfl trivial ?_
    refine go_s rfl rfl rfl ?_ ?_
    · exact vp_in_nI ha (by omega)
    simp only [ca, aL]
    iterate 1 refine go_s rfl rfl rfl trivial ?_
    refine go_if (fun hc => absurd ((nI_ltI (by omega) (by omega)).mp hc) (by omega)) (fun _ => ?_)
    iterate 2 refine go_s rfl rfl rfl trivial ?_
    refine l_di15 ha hb (by omega) ((μ b).length + 1) 0 _ _ _ _ B hw (by omega) ht (fun B1 Y4 Y5 Y6 Y7 Y8 hB1 ht1 => ?_)
    iterate 2 refine go_s rfl rfl rfl trivial ?_
    rw [nI_1]
    refine (ih (i + 1) Y4 Y5 Y6 Y7 Y8 B1 (hw.keep2 (hB1 0 (by decide)) (hB1 1 (by decide))) (by omega) ht1).mono fun r h' h => ?_
    obtain ⟨g1, B2, g2, g3⟩ := h
    exact ⟨g1, B2, g2, fun j hj => (g3 j hj).trans (hB1 j hj)⟩
theorem c_distance {a b : Nat} {μ : Nat → List Nat} {B : Nat → Nat → Int32} (hw : wm B μ) (ha : a < 6034) (hb : b < 6034) :
    Do m_Mo_distance [.ref 48, .int (nI a), .int (nI b)] (hM T I B S D) (fun r h' => r = some (.int (nI (lev (μ a) (μ b) (μ a).length (μ b).length))) ∧ ∃ B', h' = hM T I B' S D ∧ ∀ j, j ≠ 19 → B' j = B j) := by
  iterate 2 refine go_s rfl rfl rfl trivial ?_
  exact l_di2 ha hb ((μ a).length + 1) 0 _ _ _ _ _ B hw (by omega) (fun i' k' h1 h2 h3 => by omega)
theorem l_ib64 {a b k : Nat} {μ : Nat → List Nat} {B : Nat → Nat → Int32} {X3 : Option Value} (hw : wm B μ) (ha : a < 6034) (hb : b < 6034) (heq : ∀ j, j < k → (μ a).getD j 0 = (μ b).getD j 0) (hk : k = (μ a).length ∨ k = (μ b).length) (hu : k ≤ (μ a).length) (hv : k ≤ (μ b).length) :
    Go m_Mo_isBefore 64 [some (.ref 48), some (.int (nI a)), some (.int (nI b)), X3] [] (hM T I B S D) (fun r h' => r = some (.int (b01 (ltW (μ a) (μ b)))) ∧ h' = hM T I B S D) := by
  obtain ⟨a12, aL, -, -⟩ := hw a ha
  obtain ⟨b12, bL, -, -⟩ := hw b hb
  have ca : (nI a).toNatClampNeg = a := nI_clamp (by omega)
  have cb : (nI b).toNatClampNeg = b := nI_clamp (by omega)
  have key := ltW_end heq hk hu hv
  iterate 3 refine go_s rfl rfl rfl trivial ?_
  refine go_s rfl rfl rfl ?_ ?_
  · exact vp_in_nI ha (by omega)
  simp only [ca, aL]
  iterate 3 refine go_s rfl rfl rfl trivial ?_
  refine go_s rfl rfl rfl ?_ ?_
  · exact vp_in_nI hb (by omega)
  simp only [cb, bL]
  iterate 1 refine go_s rfl rfl rfl trivial ?_
  refine go_if (fun hc => ?_) (fun hc => ?_)
  · have := (nI_leI (by omega) (by omega)).mp hc
    iterate 1 refine go_s rfl rfl rfl trivial ?_
    exact go_r rfl rfl rfl (Or.inl rfl) ⟨by rw [b01_f (fun q => by have := key.mp q; omega)], rfl⟩
  · have : (μ a).length < (μ b).length := Nat.lt_of_not_le fun q => hc ((nI_leI (by omega) (by omega)).mpr q)
    iterate 2 refine go_s rfl rfl rfl trivial ?_
    exact go_r rfl rfl rfl (Or.inr rfl) ⟨by rw [b01_t (key.mpr this)], rfl⟩
theorem l_ib2 {a b : Nat} {μ : Nat → List Nat} {B : Nat → Nat → Int32} (hw : wm B μ) (ha : a < 6034) (hb : b < 6034) : ∀ (d k : Nat), (μ a).length = k + d → k ≤ (μ b).length → (∀ j, j < k → (μ a).getD j 0 = (μ b).getD j 0) →
    Go m_Mo_isBefore 2 [some (.ref 48), some (.int (nI a)), some (.int (nI b)), some (.int (nI k))] [] (hM T I B S D) (fun r h' => r = some (.int (b01 (ltW (μ a) (μ b)))) ∧ h' = hM T I B S D) := by
  obtain ⟨a12, aL, -, -⟩ := hw a ha
  obtain ⟨b12, bL, -, -⟩ := hw b hb
  have ca : (nI a).toNatClampNeg = a := nI_clamp (by omega)
  have cb : (nI b).toNatClampNeg = b := nI_clamp (by omega)
  intro d
  induction d with
  | zero =>
    intro k hd hkb heq
    iterate 4 refine go_s rfl rfl rfl trivial ?_
    refine go_s rfl rfl rfl ?_ ?_
    · exact vp_in_nI ha (by omega)
    simp only [ca, aL]
    iterate 1 refine go_s rfl rfl rfl trivial ?_
    exact go_if (fun _ => l_ib64 hw ha hb heq (by omega) (by omega) hkb) (fun hc => absurd (nI_le (by omega) (by omega)) hc)
  | succ d ih =>
    intro k hd hkb heq
    iterate 4 refine go_s rfl rfl rfl trivial ?_
    refine go_s rfl rfl rfl ?_ ?_
    · exact vp_in_nI ha (by omega)
    simp only [ca, aL]
    iterate 1 refine go_s rfl rfl rfl trivial ?_
    refine go_if (fun hc => absurd hc (nI_ge (by omega) (by omega))) (fun _ => ?_)
    iterate 4 refine go_s rfl rfl rfl trivial ?_
    refine go_s rfl rfl rfl ?_ ?_
    · exact vp_in_nI hb (by omega)
    simp only [cb, bL]
    iterate 1 refine go_s rfl rfl rfl trivial ?_
    refine go_if (fun hc => ?_) (fun hc => ?_)
    · have := (nI_leI (by omega) (by omega)).mp hc
      exact l_ib64 hw ha hb heq (by omega) (by omega) hkb
    · have hkv : k < (μ b).length := Nat.lt_of_not_le fun q => hc ((nI_leI (by omega) (by omega)).mpr q)
      have la := hw.at_lt (k := k) ha
      have lb := hw.at_lt (k := k) hb
      iterate 3 refine go_s rfl rfl rfl trivial ?_
      refine go_c rfl rfl rfl (c_byteOf_w hw ha (k := k) (by omega)) ?_
      rintro r h3 ⟨rfl, rfl⟩
      iterate 3 refine go_s rfl rfl rfl trivial ?_
      refine go_c rfl rfl rfl (c_byteOf_w hw hb (k := k) (by omega)) ?_
      rintro r h3 ⟨rfl, rfl⟩
      iterate 1 refine go_s rfl rfl rfl trivial ?_
      refine go_if (fun hc => ?_) (fun hc => ?_)
      · have e : (μ a).getD k 0 = (μ b).getD k 0 := nI_inj (by omega) (by omega) hc
        iterate 2 refine go_s rfl rfl rfl trivial ?_
        rw [nI_1]
        refine ih (k + 1) (by omega) (by omega) (fun j hj => ?_)
        rcases Nat.lt_or_ge j k with h | h
        · exact heq j h
        · rw [show j = k by omega]; exact e
      · have hne : (μ a).getD k 0 ≠ (μ b).getD k 0 := fun q => hc (by rw [q])
        have key := ltW_at heq (by omega) hkv hne
        iterate 3 refine go_s rfl rfl rfl trivial ?_
        refine go_c rfl rfl rfl (c_byteOf_w hw ha (k := k) (by omega)) ?_
        rintro r h3 ⟨rfl, rfl⟩
        iterate 3 refine go_s rfl rfl rfl trivial ?_
        refine go_c rfl rfl rfl (c_byteOf_w hw hb (k := k) (by omega)) ?_
        rintro r h3 ⟨rfl, rfl⟩
        iterate 1 refine go_s rfl rfl rfl trivial ?_
        refine go_if (fun hc1 => ?_) (fun hc1 => ?_)
        · have := (nI_leI (by omega) (by omega)).mp hc1
          iterate 1 refine go_s rfl rfl rfl trivial ?_
          exact go_r rfl rfl rfl (Or.inl rfl) ⟨by rw [b01_f (fun q => by have := key.mp q; omega)], rfl⟩
        · have : (μ a).getD k 0 < (μ b).getD k 0 := Nat.lt_of_not_le fun q => hc1 ((nI_leI (by omega) (by omega)).mpr q)
          iterate 2 refine go_s rfl rfl rfl trivial ?_
          exact go_r rfl rfl rfl (Or.inr rfl) ⟨by rw [b01_t (key.mpr this)], rfl⟩
theorem c_isBefore {a b : Nat} {μ : Nat → List Nat} {B : Nat → Nat → Int32} (hw : wm B μ) (ha : a < 6034) (hb : b < 6034) :
    Do m_Mo_isBefore [.ref 48, .int (nI a), .int (nI b)] (hM T I B S D) (fun r h' => r = some (.int (b01 (ltW (μ a) (μ b)))) ∧ h' = hM T I B S D) := by
  iterate 2 refine go_s rfl rfl rfl trivial ?_
  exact l_ib2 hw ha hb (μ a).length 0 (by omega) (Nat.zero_le _) (fun j hj => absurd hj (Nat.not_lt_zero j))
theorem e4112 (n : Nat) : (4112 : Int32) + nI n = nI (4112 + n) := by rw [show (4112 : Int32) = nI 4112 from rfl, nI_add]
theorem l_il2 {a n : Nat} {μ : Nat → List Nat} {B : Nat → Nat → Int32} (hw : wm B μ) (ha : a < 6034) (h10 : I 10 = nI n) (hn : n ≤ 1920) : ∀ (d k : Nat), n = k + d → (¬ ∃ j, j < k ∧ μ (4112 + j) = μ a) →
    Go m_Mo_isLiked 2 [some (.ref 48), some (.int (nI a)), some (.int (nI k))] [] (hM T I B S D) (fun r h' => r = some (.int (b01 (∃ j, j < n ∧ μ (4112 + j) = μ a))) ∧ h' = hM T I B S D) := by
  intro d
  induction d with
  | zero =>
    intro k hd hno
    have ek : k = n := by omega
    subst ek
    iterate 3 refine go_s rfl rfl rfl trivial ?_
    rw [h10]
    iterate 1 refine go_s rfl rfl rfl trivial ?_
    refine go_if (fun _ => ?_) (fun hc => absurd (Int32.le_refl _) hc)
    iterate 1 refine go_s rfl rfl rfl trivial ?_
    exact go_r rfl rfl rfl (Or.inl rfl) ⟨by rw [b01_f hno], rfl⟩
  | succ d ih =>
    intro k hd hno
    iterate 3 refine go_s rfl rfl rfl trivial ?_
    rw [h10]
    iterate 1 refine go_s rfl rfl rfl trivial ?_
    refine go_if (fun hc => absurd hc (nI_ge (by omega) (by omega))) (fun _ => ?_)
    iterate 4 refine go_s rfl rfl rfl trivial ?_
    rw [e4112]
    iterate 1 refine go_s rfl rfl rfl trivial ?_
    refine go_c rfl rfl rfl (c_same hw (a := 4112 + k) (by omega) ha) ?_
    rintro r h3 ⟨rfl, rfl⟩
    iterate 1 refine go_s rfl rfl rfl trivial ?_
    refine go_if (fun hc => ?_) (fun hc => ?_)
    · have hn := b01_eq0.mp hc
      iterate 2 refine go_s rfl rfl rfl trivial ?_
      rw [nI_1]
      refine ih (k + 1) (by omega) (fun ⟨j, j1, j2⟩ => ?_)
      rcases Nat.lt_or_ge j k with h | h
      · exact hno ⟨j, h, j2⟩
      · rw [show j = k by omega] at j2
        exact hn j2
    · have hq : μ (4112 + k) = μ a := Classical.not_not.mp fun q => hc (b01_f q)
      iterate 1 refine go_s rfl rfl rfl trivial ?_
      exact go_r rfl rfl rfl (Or.inr rfl) ⟨by rw [b01_t ⟨k, by omega, hq⟩], rfl⟩
theorem c_isLiked {a n : Nat} {μ : Nat → List Nat} {B : Nat → Nat → Int32} (hw : wm B μ) (ha : a < 6034) (h10 : I 10 = nI n) (hn : n ≤ 1920) :
    Do m_Mo_isLiked [.ref 48, .int (nI a)] (hM T I B S D) (fun r h' => r = some (.int (b01 (∃ j, j < n ∧ μ (4112 + j) = μ a))) ∧ h' = hM T I B S D) := by
  iterate 2 refine go_s rfl rfl rfl trivial ?_
  exact l_il2 hw ha h10 hn n 0 (by omega) (fun ⟨j, j1, _⟩ => absurd j1 (Nat.not_lt_zero j))
end MLIKE1
