/-! ===== the class's words: numbers of twelve digits of base 37 ===== -/
def dig (x : Nat) : Nat := (if 97 ≤ x then x - 86 else x - 47) % 37
def dgt (w : List Nat) (k : Nat) : Nat := if k < w.length then dig (w.getD k 0) else 0
/-- the first k digits -/
def pre (w : List Nat) : Nat → Nat
  | 0 => 0
  | k + 1 => 37 * pre w k + dgt w k
def enc (w : List Nat) : Nat := pre w 12
/-- a word, or nothing -/
def wok0 (w : List Nat) : Prop := w.length ≤ 12 ∧ ∀ x ∈ w, isLd x
theorem wok.o {w : List Nat} (h : wok w) : wok0 w := h.2
theorem dgt_lt (w : List Nat) (k : Nat) : dgt w k < 37 := by
  rw [dgt]
  split
  · exact Nat.mod_lt _ (by decide)
  · decide
theorem pre_div (w : List Nat) (k : Nat) : pre w (k + 1) / 37 = pre w k := by
  have := dgt_lt w k
  rw [pre]
  omega
theorem pre_mod (w : List Nat) (k : Nat) : pre w (k + 1) % 37 = dgt w k := by
  have := dgt_lt w k
  rw [pre]
  omega
theorem pre_divs (w : List Nat) (k : Nat) : ∀ d, pre w (k + d) / 37 ^ d = pre w k
  | 0 => by simp
  | d + 1 => by
    rw [Nat.pow_succ, Nat.mul_comm, ← Nat.div_div_eq_div_mul, show k + (d + 1) = k + d + 1 from rfl, pre_div, pre_divs w k d]
theorem pre_lt (w : List Nat) : ∀ k, pre w k < 37 ^ k
  | 0 => by simp [pre]
  | k + 1 => by
    have h1 := pre_lt w k
    have h2 := dgt_lt w k
    rw [pre, Nat.pow_succ]
    omega
theorem pow37 {k : Nat} (h : k ≤ 12) : 37 ^ k ≤ 6582952005840035281 := by
  have : 37 ^ k ≤ 37 ^ 12 := Nat.pow_le_pow_right (by decide) h
  exact this
theorem pre63 (w : List Nat) {k : Nat} (h : k ≤ 12) : pre w k < 2 ^ 63 := by
  have h1 := pre_lt w k
  have h2 := pow37 h
  omega
theorem enc63 (w : List Nat) : enc w < 2 ^ 63 := pre63 w (Nat.le_refl _)
theorem pre_ext {u v : List Nat} : ∀ k, pre u k = pre v k ↔ ∀ i, i < k → dgt u i = dgt v i
  | 0 => ⟨fun _ i h => absurd h (Nat.not_lt_zero i), fun _ => rfl⟩
  | k + 1 => by
    have h1 := dgt_lt u k
    have h2 := dgt_lt v k
    constructor
    · intro h i hi
      rw [pre, pre] at h
      have e : pre u k = pre v k := by omega
      rcases Nat.lt_or_ge i k with q | q
      · exact (pre_ext k).mp e i q
      · rw [show i = k by omega]; omega
    · intro h
      rw [pre, pre, (pre_ext k).mpr (fun i hi => h i (by omega)), h k (Nat.lt_succ_self _)]
theorem dig_pos {x : Nat} (h : isLd x) : 0 < dig x ∧ dig x < 37 ∧ dig x = if 97 ≤ x then x - 86 else x - 47 := by
  simp only [dig]
  rcases h with h | h
  · rw [if_neg (by omega)]; omega
  · rw [if_pos (by omega)]; omega
theorem dig_inj {x y : Nat} (hx : isLd x) (hy : isLd y) (h : dig x = dig y) : x = y := by
  rw [(dig_pos hx).2.2, (dig_pos hy).2.2] at h
  rcases hx with hx | hx <;> rcases hy with hy | hy
  · rw [if_neg (by omega), if_neg (by omega)] at h; omega
  · rw [if_neg (by omega), if_pos (by omega)] at h; omega
  · rw [if_pos (by omega), if_neg (by omega)] at h; omega
  · rw [if_pos (by omega), if_pos (by omega)] at h; omega
theorem dig_lt {x y : Nat} (hx : isLd x) (hy : isLd y) : dig x < dig y ↔ x < y := by
  rw [(dig_pos hx).2.2, (dig_pos hy).2.2]
  rcases hx with hx | hx <;> rcases hy with hy | hy
  · rw [if_neg (by omega), if_neg (by omega)]; omega
  · rw [if_neg (by omega), if_pos (by omega)]; omega
  · rw [if_pos (by omega), if_neg (by omega)]; omega
  · rw [if_pos (by omega), if_pos (by omega)]; omega
theorem getD_mem {w : List Nat} {k : Nat} (hk : k < w.length) : w.getD k 0 ∈ w := by
  rw [List.getD_eq_getElem?_getD, List.getElem?_eq_getElem hk]
  exact List.getElem_mem hk
theorem wok0.at {w : List Nat} (h : wok0 w) {k : Nat} (hk : k < w.length) : isLd (w.getD k 0) := h.2 _ (getD_mem hk)
theorem dgt_z {w : List Nat} (h : wok0 w) (k : Nat) : dgt w k = 0 ↔ w.length ≤ k := by
  rw [dgt]
  split
  · rename_i hk
    have := (dig_pos (h.at hk)).1
    omega
  · omega
theorem dgt_eq {u v : List Nat} (hu : wok0 u) (hv : wok0 v) {k : Nat} (hk : k < u.length) : dgt u k = dgt v k ↔ (k < v.length ∧ u.getD k 0 = v.getD k 0) := by
  constructor
  · intro h
    have h1 : k < v.length := by
      refine Nat.lt_of_not_le fun q => ?_
      rw [(dgt_z hv k).mpr q] at h
      have := (dgt_z hu k).mp h
      omega
    refine ⟨h1, ?_⟩
    rw [dgt, dgt, if_pos hk, if_pos h1] at h
    exact dig_inj (hu.at hk) (hv.at h1) h
  · rintro ⟨h1, h2⟩
    rw [dgt, dgt, if_pos hk, if_pos h1, h2]
theorem enc_inj {u v : List Nat} (hu : wok0 u) (hv : wok0 v) (h : enc u = enc v) : u = v := by
  have h1 := (pre_ext 12).mp h
  have hl : u.length = v.length := by
    rcases Nat.lt_trichotomy u.length v.length with q | q | q
    · have h3 := hv.1
      have h2 := h1 u.length (by omega)
      rw [(dgt_z hu _).mpr (Nat.le_refl _)] at h2
      have := (dgt_z hv _).mp h2.symm
      omega
    · exact q
    · have h3 := hu.1
      have h2 := h1 v.length (by omega)
      rw [(dgt_z hv _).mpr (Nat.le_refl _)] at h2
      have := (dgt_z hu _).mp h2
      omega
  refine eq_of_getD hl fun j hj => ?_
  have := hu.1
  exact ((dgt_eq hu hv hj).mp (h1 j (by omega))).2
theorem enc_z {w : List Nat} (h : wok0 w) : enc w = 0 ↔ w = [] := by
  constructor
  · intro q
    exact enc_inj h ⟨Nat.zero_le _, fun x hx => by cases hx⟩ (q.trans (by decide))
  · rintro rfl
    decide
theorem encI {u v : List Nat} (hu : wok0 u) (hv : wok0 v) : lN (enc u) = lN (enc v) ↔ u = v := by
  rw [pk_lEQ (enc63 u) (enc63 v)]
  exact ⟨enc_inj hu hv, fun h => by rw [h]⟩
theorem encZ {w : List Nat} (h : wok0 w) : lN (enc w) = 0 ↔ w = [] := by
  rw [show (0 : Int64) = lN 0 from rfl, pk_lEQ (enc63 w) (by decide)]
  exact enc_z h
/-- the beginning of a word -/
theorem pre_beg {b w : List Nat} (hb : wok0 b) (hw : wok0 w) : pre b b.length = pre w b.length ↔ begP w b := by
  rw [pre_ext, begP]
  constructor
  · intro h
    have hl : b.length ≤ w.length := by
      refine Nat.le_of_not_lt fun q => ?_
      have := ((dgt_eq hb hw (k := w.length) q).mp (h _ q)).1
      omega
    refine eq_of_getD (by rw [List.length_take]; omega) fun j hj => ?_
    rw [List.length_take] at hj
    rw [List.getD_eq_getElem?_getD, List.getElem?_take_of_lt (by omega), ← List.getD_eq_getElem?_getD]
    exact (((dgt_eq hb hw (k := j) (by omega)).mp (h _ (by omega))).2).symm
  · intro h i hi
    have hl : b.length ≤ w.length := by
      have := congrArg List.length h
      rw [List.length_take] at this
      omega
    refine (dgt_eq hb hw hi).mpr ⟨by omega, ?_⟩
    have : b.getD i 0 = (w.take b.length).getD i 0 := by rw [h]
    rw [this, List.getD_eq_getElem?_getD, List.getElem?_take_of_lt hi, ← List.getD_eq_getElem?_getD]
/-- the order -/
theorem pre_mono {u v : List Nat} {k : Nat} (h : pre u k < pre v k) : ∀ d, pre u (k + d) < pre v (k + d)
  | 0 => h
  | d + 1 => by
    have h1 := pre_mono h d
    have h2 := dgt_lt u (k + d)
    rw [show k + (d + 1) = k + d + 1 from rfl, pre, pre]
    omega
theorem pre_ord {u v : List Nat} {k : Nat} (he : ∀ i, i < k → dgt u i = dgt v i) (hk : k < 12) (h : dgt u k < dgt v k) : enc u < enc v := by
  have e := (pre_ext k).mpr he
  have h1 : pre u (k + 1) < pre v (k + 1) := by rw [pre, pre]; omega
  have h2 := pre_mono h1 (11 - k)
  rw [show k + 1 + (11 - k) = 12 by omega] at h2
  exact h2
theorem enc_lt {u v : List Nat} (hu : wok0 u) (hv : wok0 v) : enc u < enc v ↔ ltW u v := by
  have fwd : ∀ {u v : List Nat}, wok0 u → wok0 v → ltW u v → enc u < enc v := by
    rintro u v hu hv ⟨k, h1, h2⟩
    have l1 := hu.1
    have l2 := hv.1
    have he : ∀ i, i < k → dgt u i = dgt v i := by
      intro i hi
      refine (dgt_eq hu hv ?_).mpr ⟨?_, h1 i hi⟩
      · rcases h2 with h2 | h2 <;> omega
      · rcases h2 with h2 | h2 <;> omega
    refine pre_ord he (by rcases h2 with h2 | h2 <;> omega) ?_
    rcases h2 with ⟨q1, q2, q3⟩ | ⟨q1, q2⟩
    · rw [dgt, dgt, if_pos q1, if_pos q2]
      exact (dig_lt (hu.at q1) (hv.at q2)).mpr q3
    · rw [(dgt_z hu k).mpr (by omega)]
      refine Nat.pos_of_ne_zero fun q => ?_
      have := (dgt_z hv k).mp q
      omega
  constructor
  · intro h
    have hne : u ≠ v := fun q => by rw [q] at h; omega
    obtain ⟨k, k1, k2⟩ := pk_least (fun k => (k < u.length ∧ k < v.length ∧ u.getD k 0 ≠ v.getD k 0) ∨ (u.length ≤ k ∨ v.length ≤ k)) ⟨u.length, Or.inr (Or.inl (Nat.le_refl _))⟩
    have he : ∀ j, j < k → j < u.length ∧ j < v.length ∧ u.getD j 0 = v.getD j 0 := by
      intro j hj
      have := k2 j hj
      refine ⟨?_, ?_, ?_⟩
      · exact Nat.lt_of_not_le fun q => this (Or.inr (Or.inl q))
      · exact Nat.lt_of_not_le fun q => this (Or.inr (Or.inr q))
      · refine Classical.not_not.mp fun q => this (Or.inl ⟨?_, ?_, q⟩)
        · exact Nat.lt_of_not_le fun q => this (Or.inr (Or.inl q))
        · exact Nat.lt_of_not_le fun q => this (Or.inr (Or.inr q))
    have hku : k ≤ u.length := Nat.le_of_not_lt fun q => by have := (he _ q).1; omega
    have hkv : k ≤ v.length := Nat.le_of_not_lt fun q => by have := (he _ q).2.1; omega
    rcases k1 with ⟨q1, q2, q3⟩ | q
    · rcases Nat.lt_or_ge (u.getD k 0) (v.getD k 0) with g | g
      · exact ⟨k, fun j hj => (he j hj).2.2, Or.inl ⟨q1, q2, g⟩⟩
      · have : enc v < enc u := fwd hv hu ⟨k, fun j hj => (he j hj).2.2.symm, Or.inl ⟨q2, q1, by omega⟩⟩
        omega
    · rcases Nat.lt_trichotomy u.length v.length with g | g | g
      · exact ⟨k, fun j hj => (he j hj).2.2, Or.inr ⟨by omega, by omega⟩⟩
      · exact absurd (eq_of_getD g fun j hj => (he j (by omega)).2.2) hne
      · have : enc v < enc u := fwd hv hu ⟨k, fun j hj => (he j hj).2.2.symm, Or.inr ⟨by omega, by omega⟩⟩
        omega
  · exact fwd hu hv
/-! ===== the class's methods of words ===== -/
theorem l37 : (37 : Int64) = lN 37 := rfl
theorem n37 : ¬ (37 : Int64) = 0 := by decide
theorem c_withoutLast (h : List am_C) (n j : Nat) (hn : n < 2 ^ 63) (hj : j ≤ 12) : Do m_Wo_withoutLast [.long (lN n), .int (nI j)] h (fun r h' => r = some (.long (lN (n / 37 ^ j))) ∧ h' = h) := by
  have key : ∀ (d i m : Nat), m < 2 ^ 63 → j = i + d → Go m_Wo_withoutLast 5 [some (.long (lN n)), none, some (.int (nI j)), some (.long (lN m)), none, some (.int (nI i))] [] h (fun r h' => r = some (.long (lN (m / 37 ^ d))) ∧ h' = h) := by
    intro d
    induction d with
    | zero =>
      intro i m hm hd
      have ei : i = j := by omega
      subst ei
      iterate 3 refine go_s rfl rfl rfl trivial ?_
      refine go_if (fun _ => ?_) (fun hc => absurd (Int32.le_refl _) hc)
      iterate 1 refine go_s rfl rfl rfl trivial ?_
      exact go_r rfl rfl rfl trivial ⟨by rw [Nat.pow_zero, Nat.div_one], rfl⟩
    | succ d ih =>
      intro i m hm hd
      iterate 3 refine go_s rfl rfl rfl trivial ?_
      refine go_if (fun hc => absurd hc (nI_ge (by omega) (by omega))) (fun _ => ?_)
      iterate 3 refine go_s rfl rfl rfl trivial ?_
      refine go_if (fun hc => absurd hc (nI_ge (a := i) (b := 12) (by omega) (by omega))) (fun _ => ?_)
      iterate 2 refine go_s rfl rfl rfl trivial ?_
      refine go_s rfl rfl rfl ?_ ?_
      · exact n37
      rw [l37, pk_lDiv hm (by decide) (by decide)]
      iterate 3 refine go_s rfl rfl rfl trivial ?_
      rw [nI_1]
      have hm' : m / 37 < 2 ^ 63 := by omega
      refine (ih (i + 1) (m / 37) hm' (by omega)).mono fun r h' g => ?_
      rw [Nat.div_div_eq_div_mul, Nat.mul_comm, ← Nat.pow_succ] at g
      exact g
  iterate 4 refine go_s rfl rfl rfl trivial ?_
  exact key j 0 n hn (by omega)
theorem c_withZeros (h : List am_C) (n j : Nat) (hj : j ≤ 12) : Do m_Wo_withZeros [.long (lN n), .int (nI j)] h (fun r h' => r = some (.long (lN (n * 37 ^ j))) ∧ h' = h) := by
  have key : ∀ (d i m : Nat), j = i + d → Go m_Wo_withZeros 5 [some (.long (lN n)), none, some (.int (nI j)), some (.long (lN m)), none, some (.int (nI i))] [] h (fun r h' => r = some (.long (lN (m * 37 ^ d))) ∧ h' = h) := by
    intro d
    induction d with
    | zero =>
      intro i m hd
      have ei : i = j := by omega
      subst ei
      iterate 3 refine go_s rfl rfl rfl trivial ?_
      refine go_if (fun _ => ?_) (fun hc => absurd (Int32.le_refl _) hc)
      iterate 1 refine go_s rfl rfl rfl trivial ?_
      exact go_r rfl rfl rfl trivial ⟨by rw [Nat.pow_zero, Nat.mul_one], rfl⟩
    | succ d ih =>
      intro i m hd
      iterate 3 refine go_s rfl rfl rfl trivial ?_
      refine go_if (fun hc => absurd hc (nI_ge (by omega) (by omega))) (fun _ => ?_)
      iterate 3 refine go_s rfl rfl rfl trivial ?_
      refine go_if (fun hc => absurd hc (nI_ge (a := i) (b := 12) (by omega) (by omega))) (fun _ => ?_)
      iterate 3 refine go_s rfl rfl rfl trivial ?_
      rw [l37, lN_mul]
      iterate 3 refine go_s rfl rfl rfl trivial ?_
      rw [nI_1]
      refine (ih (i + 1) (m * 37) (by omega)).mono fun r h' g => ?_
      rw [Nat.mul_assoc, Nat.mul_comm 37, ← Nat.pow_succ] at g
      exact g
  iterate 4 refine go_s rfl rfl rfl trivial ?_
  exact key j 0 n (by omega)
theorem c_lengthOf (h : List am_C) {w : List Nat} (hw : wok0 w) : Do m_Wo_lengthOf [.long (lN (enc w))] h (fun r h' => r = some (.int (nI w.length)) ∧ h' = h) := by
  have key : ∀ (k : Nat), k ≤ 12 → w.length ≤ k → Go m_Wo_lengthOf 6 [some (.long (lN (enc w))), none, some (.long (lN (pre w k))), none, some (.int (nI k))] [] h (fun r h' => r = some (.int (nI w.length)) ∧ h' = h) := by
    intro k
    induction k with
    | zero =>
      intro _ hl
      iterate 2 refine go_s rfl rfl rfl trivial ?_
      refine go_if (fun _ => ?_) (fun hc => absurd (by decide) hc)
      iterate 1 refine go_s rfl rfl rfl trivial ?_
      exact go_r rfl rfl rfl trivial ⟨by rw [show w.length = 0 by omega]; rfl, rfl⟩
    | succ k ih =>
      intro hk hl
      iterate 2 refine go_s rfl rfl rfl trivial ?_
      refine go_if (fun hc => absurd hc (nI_nle (by omega) (by omega))) (fun _ => ?_)
      iterate 2 refine go_s rfl rfl rfl trivial ?_
      refine go_s rfl rfl rfl ?_ ?_
      · exact n37
      rw [l37, pk_lRem (pre63 w hk) (by decide) (by decide), pre_mod]
      iterate 3 refine go_s rfl rfl rfl trivial ?_
      refine go_if (fun hc => ?_) (fun hc => ?_)
      · have h0 : dgt w k = 0 := by
          have := (lg_cmp_eq _ _).mp hc
          rw [show (0 : Int64) = lN 0 from rfl, pk_lEQ (by have := dgt_lt w k; omega) (by decide)] at this
          exact this
        iterate 2 refine go_s rfl rfl rfl trivial ?_
        refine go_s rfl rfl rfl ?_ ?_
        · exact n37
        rw [l37, pk_lDiv (pre63 w hk) (by decide) (by decide), pre_div]
        iterate 2 refine go_s rfl rfl rfl trivial ?_
        rw [pk_m1]
        iterate 1 refine go_s rfl rfl rfl trivial ?_
        exact ih (by omega) ((dgt_z hw k).mp h0)
      · have h0 : ¬ w.length ≤ k := fun q => hc (by rw [(dgt_z hw k).mpr q]; exact (lg_cmp_eq _ _).mpr rfl)
        iterate 1 refine go_s rfl rfl rfl trivial ?_
        exact go_r rfl rfl rfl trivial ⟨by rw [show w.length = k + 1 by omega], rfl⟩
  iterate 4 refine go_s rfl rfl rfl trivial ?_
  exact key 12 (Nat.le_refl _) hw.1
theorem c_symbolAt (h : List am_C) {w : List Nat} (hw : wok0 w) {i : Nat} (hi : i < w.length) : Do m_Wo_symbolAt [.long (lN (enc w)), .int (nI i)] h (fun r h' => r = some (.int (nI (w.getD i 0))) ∧ h' = h) := by
  have h12 := hw.1
  have e1 : (11 : Int32) - nI i = nI (11 - i) := by rw [show (11 : Int32) = nI 11 from rfl, pk_sub (by omega)]
  have hd := dig_pos (hw.at hi)
  have hl := hw.at hi
  have e3 : dgt w i = dig (w.getD i 0) := if_pos hi
  iterate 4 refine go_s rfl rfl rfl trivial ?_
  rw [e1]
  refine go_c rfl rfl rfl (c_withoutLast h (enc w) (11 - i) (enc63 w) (by omega)) ?_
  rintro r h1 ⟨rfl, rfl⟩
  have e2 : enc w / 37 ^ (11 - i) = pre w (i + 1) := by
    have := pre_divs w (i + 1) (11 - i)
    rw [show i + 1 + (11 - i) = 12 by omega] at this
    exact this
  rw [e2]
  iterate 1 refine go_s rfl rfl rfl trivial ?_
  refine go_s rfl rfl rfl ?_ ?_
  · exact n37
  rw [l37, pk_lRem (pre63 w (by omega)) (by decide) (by decide), pre_mod, e3]
  iterate 1 refine go_s rfl rfl rfl trivial ?_
  rw [lN_i]
  generalize w.getD i 0 = x at *
  rw [hd.2.2]
  rcases hl with q | q
  · rw [if_neg (by omega)]
    iterate 3 refine go_s rfl rfl rfl trivial ?_
    iterate 1 refine go_s rfl rfl rfl trivial ?_
    refine go_if (fun _ => ?_) (fun hc => absurd ((nI_ltI (a := x - 47) (b := 11) (by omega) (by omega)).mpr (by omega)) hc)
    iterate 5 refine go_s rfl rfl rfl trivial ?_
    refine go_r rfl rfl rfl trivial ⟨?_, rfl⟩
    rw [show (1 : Int32) = nI 1 from rfl, show (48 : Int32) = nI 48 from rfl, pk_sub (by omega), nI_add, show x - 47 - 1 + 48 = x by omega]
  · rw [if_pos (by omega)]
    iterate 3 refine go_s rfl rfl rfl trivial ?_
    iterate 1 refine go_s rfl rfl rfl trivial ?_
    refine go_if (fun hc => absurd ((nI_ltI (a := x - 86) (b := 11) (by omega) (by omega)).mp hc) (by omega)) (fun _ => ?_)
    iterate 6 refine go_s rfl rfl rfl trivial ?_
    refine go_r rfl rfl rfl trivial ⟨?_, rfl⟩
    rw [show (11 : Int32) = nI 11 from rfl, show (97 : Int32) = nI 97 from rfl, pk_sub (by omega), nI_add, show x - 86 - 11 + 97 = x by omega]
theorem c_isBeginning (h : List am_C) {b w : List Nat} (hb : wok0 b) (hw : wok0 w) : Do m_Wo_isBeginning [.long (lN (enc b)), .long (lN (enc w))] h (fun r h' => r = some (.int (b01 (begP w b))) ∧ h' = h) := by
  have h12 := hb.1
  have e1 : (12 : Int32) - nI b.length = nI (12 - b.length) := by rw [show (12 : Int32) = nI 12 from rfl, pk_sub (by omega)]
  have e2 : ∀ v : List Nat, enc v / 37 ^ (12 - b.length) = pre v b.length := by
    intro v
    have := pre_divs v b.length (12 - b.length)
    rw [show b.length + (12 - b.length) = 12 by omega] at this
    exact this
  iterate 2 refine go_s rfl rfl rfl trivial ?_
  refine go_c rfl rfl rfl (c_lengthOf h hb) ?_
  rintro r h1 ⟨rfl, rfl⟩
  iterate 1 refine go_s rfl rfl rfl trivial ?_
  rw [e1]
  iterate 3 refine go_s rfl rfl rfl trivial ?_
  refine go_c rfl rfl rfl (c_withoutLast h1 (enc b) (12 - b.length) (enc63 b) (by omega)) ?_
  rintro r h2 ⟨rfl, rfl⟩
  iterate 2 refine go_s rfl rfl rfl trivial ?_
  refine go_c rfl rfl rfl (c_withoutLast h2 (enc w) (12 - b.length) (enc63 w) (by omega)) ?_
  rintro r h3 ⟨rfl, rfl⟩
  rw [e2, e2]
  iterate 2 refine go_s rfl rfl rfl trivial ?_
  refine go_if (fun hc => ?_) (fun hc => ?_)
  · iterate 1 refine go_s rfl rfl rfl trivial ?_
    refine go_r rfl rfl rfl (Or.inl rfl) ⟨?_, rfl⟩
    rw [b01_f]
    intro q
    refine hc ((lg_cmp_eq _ _).mpr ?_)
    rw [(pre_beg hb hw).mpr q]
  · have e := (lg_cmp_eq _ _).mp (Classical.not_not.mp hc)
    rw [pk_lEQ (pre63 b h12) (pre63 w h12)] at e
    iterate 2 refine go_s rfl rfl rfl trivial ?_
    refine go_r rfl rfl rfl (Or.inr rfl) ⟨?_, rfl⟩
    rw [b01_t ((pre_beg hb hw).mp e)]
/-- the digit of a byte -/
def dgb (b : Nat) : Nat := if ltr b = 0 then 0 else dig (ltr b)
theorem c_digitOf (h : List am_C) {b : Nat} (hb : b < 256) : Do m_Wo_digitOf [.int (nI b)] h (fun r h' => r = some (.int (nI (dgb b))) ∧ h' = h) := by
  have fin0 : dgb b = 0 → Go m_Wo_digitOf 59 [some (.int (nI b))] [] h (fun r h' => r = some (.int (nI (dgb b))) ∧ h' = h) := by
    intro q
    iterate 1 refine go_s rfl rfl rfl trivial ?_
    exact go_r rfl rfl rfl trivial ⟨by rw [q]; rfl, rfl⟩
  have a65 : ¬ (48 ≤ b ∧ b ≤ 57) → ¬ (97 ≤ b ∧ b ≤ 122) → Go m_Wo_digitOf 39 [some (.int (nI b))] [] h (fun r h' => r = some (.int (nI (dgb b))) ∧ h' = h) := by
    intro q1 q2
    iterate 3 refine go_s rfl rfl rfl trivial ?_
    refine go_if (fun hc => fin0 ?_) (fun hc => ?_)
    · have := (nI_ltI (b := 65) (by omega) (by omega)).mp hc
      rw [dgb, if_pos]
      rw [ltr, if_neg (by omega), if_neg (by omega)]
    · have h1 : ¬ b < 65 := fun q => hc ((nI_ltI (b := 65) (by omega) (by omega)).mpr q)
      iterate 3 refine go_s rfl rfl rfl trivial ?_
      refine go_if (fun hc => fin0 ?_) (fun hc => ?_)
      · have := (nI_ltI (a := 90) (by omega) (by omega)).mp hc
        rw [dgb, if_pos]
        rw [ltr, if_neg (by omega), if_neg (by omega)]
      · have h2 : ¬ 90 < b := fun q => hc ((nI_ltI (a := 90) (by omega) (by omega)).mpr q)
        iterate 5 refine go_s rfl rfl rfl trivial ?_
        refine go_r rfl rfl rfl trivial ⟨?_, rfl⟩
        have e : ltr b = b + 32 := by rw [ltr, if_pos (by omega)]
        rw [dgb, e, if_neg (by omega), dig, if_pos (by omega), show (65 : Int32) = nI 65 from rfl, show (11 : Int32) = nI 11 from rfl, pk_sub (by omega), nI_add, show b - 65 + 11 = (b + 32 - 86) % 37 by omega]
  have a97 : ¬ (48 ≤ b ∧ b ≤ 57) → Go m_Wo_digitOf 19 [some (.int (nI b))] [] h (fun r h' => r = some (.int (nI (dgb b))) ∧ h' = h) := by
    intro q1
    iterate 3 refine go_s rfl rfl rfl trivial ?_
    refine go_if (fun hc => ?_) (fun hc => ?_)
    · have := (nI_ltI (b := 97) (by omega) (by omega)).mp hc
      exact a65 q1 (by omega)
    · have h1 : ¬ b < 97 := fun q => hc ((nI_ltI (b := 97) (by omega) (by omega)).mpr q)
      iterate 3 refine go_s rfl rfl rfl trivial ?_
      refine go_if (fun hc => ?_) (fun hc => ?_)
      · have := (nI_ltI (a := 122) (by omega) (by omega)).mp hc
        exact a65 q1 (by omega)
      · have h2 : ¬ 122 < b := fun q => hc ((nI_ltI (a := 122) (by omega) (by omega)).mpr q)
        iterate 5 refine go_s rfl rfl rfl trivial ?_
        refine go_r rfl rfl rfl trivial ⟨?_, rfl⟩
        have e : ltr b = b := by rw [ltr, if_neg (by omega), if_pos (by omega)]
        rw [dgb, e, if_neg (by omega), dig, if_pos (by omega), show (97 : Int32) = nI 97 from rfl, show (11 : Int32) = nI 11 from rfl, pk_sub (by omega), nI_add, show b - 97 + 11 = (b - 86) % 37 by omega]
  iterate 3 refine go_s rfl rfl rfl trivial ?_
  refine go_if (fun hc => ?_) (fun hc => ?_)
  · have := (nI_ltI (b := 48) (by omega) (by omega)).mp hc
    exact a97 (by omega)
  · have h1 : ¬ b < 48 := fun q => hc ((nI_ltI (b := 48) (by omega) (by omega)).mpr q)
    iterate 3 refine go_s rfl rfl rfl trivial ?_
    refine go_if (fun hc => ?_) (fun hc => ?_)
    · have := (nI_ltI (a := 57) (by omega) (by omega)).mp hc
      exact a97 (by omega)
    · have h2 : ¬ 57 < b := fun q => hc ((nI_ltI (a := 57) (by omega) (by omega)).mpr q)
      iterate 5 refine go_s rfl rfl rfl trivial ?_
      refine go_r rfl rfl rfl trivial ⟨?_, rfl⟩
      have e : ltr b = b := by rw [ltr, if_neg (by omega), if_pos (by omega)]
      rw [dgb, e, if_neg (by omega), dig, if_neg (by omega), show (48 : Int32) = nI 48 from rfl, show (1 : Int32) = nI 1 from rfl, pk_sub (by omega), nI_add, show b - 48 + 1 = (b - 47) % 37 by omega]
theorem c_withDigit (h : List am_C) (n d : Nat) (hd : d < 2 ^ 31) : Do m_Wo_withDigit [.long (lN n), .int (nI d)] h (fun r h' => r = some (.long (lN (37 * n + d))) ∧ h' = h) := by
  iterate 5 refine go_s rfl rfl rfl trivial ?_
  rw [l37, lN_mul, nI_l hd]
  iterate 1 refine go_s rfl rfl rfl trivial ?_
  refine go_r rfl rfl rfl trivial ⟨?_, rfl⟩
  rw [lN_add, Nat.mul_comm]
