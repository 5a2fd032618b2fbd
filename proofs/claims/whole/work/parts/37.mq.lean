/-! ===== a question, as it is read from the tape ===== -/
/-- the byte at a place (256: none), the letter there (0: none) -/
def sy (P : tx_P) (p : Nat) : Nat := if p < P.2 then P.1 p else 256
def lq (P : tx_P) (p : Nat) : Nat := if p < P.2 then ltr (P.1 p) else 0
def skF (P : tx_P) : Nat → Nat → Nat
  | 0, p => p
  | f + 1, p => if sy P p = 32 then skF P f (p + 1) else p
/-- behind the blanks -/
def sk (P : tx_P) (p : Nat) : Nat := skF P (P.2 - p) p
def wlF (P : tx_P) : Nat → Nat → Nat
  | 0, _ => 0
  | f + 1, p => if lq P p = 0 then 0 else wlF P f (p + 1) + 1
/-- how many letters stand here -/
def wl (P : tx_P) (p : Nat) : Nat := wlF P (P.2 - p) p
def wrd (P : tx_P) (p r : Nat) : List Nat := (List.range r).map fun j => lq P (p + j)
theorem sy_out {P : tx_P} {p : Nat} (h : P.2 ≤ p) : sy P p = 256 := if_neg (by omega)
theorem lq_out {P : tx_P} {p : Nat} (h : P.2 ≤ p) : lq P p = 0 := if_neg (by omega)
theorem sk_yes {P : tx_P} {p : Nat} (h : sy P p = 32) : sk P p = sk P (p + 1) := by
  have hp : p < P.2 := Nat.lt_of_not_le fun q => by rw [sy_out q] at h; omega
  rw [sk, show P.2 - p = (P.2 - (p + 1)) + 1 by omega, skF, if_pos h]
  rfl
theorem sk_no {P : tx_P} {p : Nat} (h : sy P p ≠ 32) : sk P p = p := by
  rw [sk]
  cases P.2 - p with
  | zero => rfl
  | succ f => rw [skF, if_neg h]
theorem wl_no {P : tx_P} {p : Nat} (h : lq P p = 0) : wl P p = 0 := by
  rw [wl]
  cases P.2 - p with
  | zero => rfl
  | succ f => rw [wlF, if_pos h]
theorem wl_yes {P : tx_P} {p : Nat} (h : lq P p ≠ 0) : wl P p = wl P (p + 1) + 1 := by
  have hp : p < P.2 := Nat.lt_of_not_le fun q => h (lq_out q)
  rw [wl, show P.2 - p = (P.2 - (p + 1)) + 1 by omega, wlF, if_neg h]
  rfl
theorem sk_all (P : tx_P) : ∀ d p, P.2 - p = d → sy P (sk P p) ≠ 32 ∧ p ≤ sk P p ∧ (p ≤ P.2 → sk P p ≤ P.2) := by
  intro d
  induction d with
  | zero =>
    intro p hd
    have h : sy P p ≠ 32 := by rw [sy_out (by omega)]; decide
    rw [sk_no h]
    exact ⟨h, Nat.le_refl _, fun h => h⟩
  | succ d ih =>
    intro p hd
    by_cases h : sy P p = 32
    · rw [sk_yes h]
      obtain ⟨a, b, c⟩ := ih (p + 1) (by omega)
      exact ⟨a, by omega, fun _ => c (by omega)⟩
    · rw [sk_no h]
      exact ⟨h, Nat.le_refl _, fun h => h⟩
theorem sk_stop (P : tx_P) (p : Nat) : sy P (sk P p) ≠ 32 := (sk_all P _ p rfl).1
theorem sk_ge (P : tx_P) (p : Nat) : p ≤ sk P p := (sk_all P _ p rfl).2.1
theorem sk_le {P : tx_P} {p : Nat} (h : p ≤ P.2) : sk P p ≤ P.2 := (sk_all P _ p rfl).2.2 h
theorem sk_sk (P : tx_P) (p : Nat) : sk P (sk P p) = sk P p := sk_no (sk_stop P p)
theorem wl_all (P : tx_P) : ∀ d p, P.2 - p = d → lq P (p + wl P p) = 0 ∧ (p ≤ P.2 → p + wl P p ≤ P.2) := by
  intro d
  induction d with
  | zero =>
    intro p hd
    have h : lq P p = 0 := lq_out (by omega)
    rw [wl_no h]
    exact ⟨h, fun h => h⟩
  | succ d ih =>
    intro p hd
    by_cases h : lq P p = 0
    · rw [wl_no h]
      exact ⟨h, fun h => h⟩
    · rw [wl_yes h]
      obtain ⟨a, b⟩ := ih (p + 1) (by omega)
      rw [show p + 1 + wl P (p + 1) = p + (wl P (p + 1) + 1) by omega] at a b
      exact ⟨a, fun _ => b (by omega)⟩
theorem wl_end (P : tx_P) (p : Nat) : lq P (p + wl P p) = 0 := (wl_all P _ p rfl).1
theorem wl_le {P : tx_P} {p : Nat} (h : p ≤ P.2) : p + wl P p ≤ P.2 := (wl_all P _ p rfl).2 h
theorem wrd_len (P : tx_P) (p r : Nat) : (wrd P p r).length = r := by simp [wrd]
theorem wrd_succ (P : tx_P) (p r : Nat) : wrd P p (r + 1) = wrd P p r ++ [lq P (p + r)] := by simp [wrd, List.range_succ]
theorem lq_lt {P : tx_P} (hP : ∀ j, j < P.2 → P.1 j < 256) (p : Nat) : lq P p < 128 := by
  rw [lq]
  split
  · exact ltr_lt (hP p ‹_›)
  · decide
/-- a letter is no sign -/
theorem lq_sy {P : tx_P} {p : Nat} (h : lq P p ≠ 0) : sy P p ≠ 32 ∧ sy P p ≠ 34 ∧ sy P p ≠ 42 ∧ sy P p ≠ 45 ∧ sy P p ≠ 124 ∧ p < P.2 := by
  have hp : p < P.2 := Nat.lt_of_not_le fun q => h (lq_out q)
  rw [lq, if_pos hp] at h
  rw [sy, if_pos hp]
  refine ⟨?_, ?_, ?_, ?_, ?_, hp⟩ <;> intro e <;> rw [e] at h <;> exact h rfl
def hereI (P : tx_P) (p : Nat) : Int32 := if p < P.2 then sbI (P.1 p) else -1
theorem hereI_eq {P : tx_P} (hP : ∀ j, j < P.2 → P.1 j < 256) {p c : Nat} (hc : c < 128) : hereI P p = nI c ↔ sy P p = c := by
  rw [hereI, sy]
  split
  · rename_i h
    have key : ∀ b, b < 256 → ∀ c, c < 128 → (sbI b = nI c ↔ b = c) := by decide +kernel
    exact key _ (hP p h) c hc
  · have key : ∀ c, c < 128 → ((-1 : Int32) = nI c ↔ 256 = c) := by decide +kernel
    exact key c hc
theorem up_idG {α : Type} (f : Nat → α) (a : Nat) : va_up f a (f a) = f := by
  funext j
  by_cases e : j = a
  · subst e; rw [va_up_self]
  · rw [va_up_ne _ _ e]
section MQ1
variable {T : Nat → am_C} {D : List am_C} {I : Nat → Int32} {B : Nat → Nat → Int32} {S : Nat → Int64} {P : tx_P}
theorem gP.lt {I : Nat → Int32} {B : Nat → Nat → Int32} (h : gP P I B) : ∀ j, j < P.2 → P.1 j < 256 := fun j hj => (h.2.2 j hj).2
theorem c_here (hP : gP P I B) {p : Nat} (hp : p < 1000) (h7 : I 7 = nI p) : Do m_Mo_here [.ref 48] (hM T I B S D) (fun r h' => r = some (.int (hereI P p)) ∧ h' = hM T I B S D) := by
  obtain ⟨p1, p2, p3⟩ := hP
  have cp : (nI p).toNatClampNeg = p := nI_clamp (by omega)
  iterate 2 refine go_s rfl rfl rfl trivial ?_
  rw [h7]
  iterate 2 refine go_s rfl rfl rfl trivial ?_
  rw [p1]
  iterate 1 refine go_s rfl rfl rfl trivial ?_
  refine go_if (fun hc => ?_) (fun hc => ?_)
  · have : P.2 ≤ p := (nI_leI (by omega) (by omega)).mp hc
    iterate 1 refine go_s rfl rfl rfl trivial ?_
    refine go_r rfl rfl rfl trivial ⟨?_, rfl⟩
    rw [hereI, if_neg (by omega)]
  · have : p < P.2 := Nat.lt_of_not_le fun q => hc ((nI_leI (by omega) (by omega)).mpr q)
    iterate 4 refine go_s rfl rfl rfl trivial ?_
    rw [h7]
    refine go_s rfl rfl rfl ?_ ?_
    · exact vp_in_nI (by omega) (by omega)
    iterate 1 refine go_s rfl rfl rfl trivial ?_
    refine go_r rfl rfl rfl trivial ⟨?_, rfl⟩
    rw [cp, (p3 p this).1, hereI, if_pos this]
theorem c_isLetter (hP : gP P I B) {p : Nat} (hp : p < 1000) (h7 : I 7 = nI p) : Do m_Mo_isLetter [.ref 48] (hM T I B S D) (fun r h' => r = some (.int (b01 (lq P p ≠ 0))) ∧ h' = hM T I B S D) := by
  obtain ⟨p1, p2, p3⟩ := hP
  have cp : (nI p).toNatClampNeg = p := nI_clamp (by omega)
  iterate 2 refine go_s rfl rfl rfl trivial ?_
  rw [h7]
  iterate 2 refine go_s rfl rfl rfl trivial ?_
  rw [p1]
  iterate 1 refine go_s rfl rfl rfl trivial ?_
  refine go_if (fun hc => ?_) (fun hc => ?_)
  · have : P.2 ≤ p := (nI_leI (by omega) (by omega)).mp hc
    iterate 1 refine go_s rfl rfl rfl trivial ?_
    refine go_r rfl rfl rfl (Or.inl rfl) ⟨?_, rfl⟩
    rw [b01_f (fun q => q (lq_out this))]
  · have hpn : p < P.2 := Nat.lt_of_not_le fun q => hc ((nI_leI (by omega) (by omega)).mpr q)
    obtain ⟨y1, y2⟩ := p3 p hpn
    have e : lq P p = ltr (P.1 p) := if_pos hpn
    have := ltr_lt y2
    iterate 4 refine go_s rfl rfl rfl trivial ?_
    rw [h7]
    refine go_s rfl rfl rfl ?_ ?_
    · exact vp_in_nI (by omega) (by omega)
    simp only [cp, y1]
    refine go_c rfl rfl rfl (c_letter _ _) ?_
    rintro r h3 ⟨rfl, rfl⟩
    rw [lteI_sb y2]
    iterate 1 refine go_s rfl rfl rfl trivial ?_
    refine go_if (fun hc2 => ?_) (fun hc2 => ?_)
    · have : ltr (P.1 p) = 0 := nI_inj (by omega) (by omega) hc2
      iterate 1 refine go_s rfl rfl rfl trivial ?_
      refine go_r rfl rfl rfl (Or.inl rfl) ⟨?_, rfl⟩
      rw [b01_f (fun q => q (by rw [e]; exact this))]
    · iterate 2 refine go_s rfl rfl rfl trivial ?_
      refine go_r rfl rfl rfl (Or.inr rfl) ⟨?_, rfl⟩
      rw [b01_t (fun q => hc2 (by rw [e] at q; rw [q]; rfl))]
theorem c_need1 (T : Nat → am_C) (D : List am_C) (I : Nat → Int32) (B : Nat → Nat → Int32) (S : Nat → Int64) : Do m_Mo_need [.ref 48, .int 1] (hM T I B S D) (fun r h' => r = none ∧ h' = hM T I B S D) := by
  iterate 3 refine go_s rfl rfl rfl trivial ?_
  refine go_if (fun hc => ?_) (fun hc => ?_)
  · exact go_r rfl rfl rfl trivial ⟨rfl, rfl⟩
  · iterate 2 refine go_s rfl rfl rfl trivial ?_
    refine go_if (fun hc => ?_) (fun hc => ?_)
    · exact go_r rfl rfl rfl trivial ⟨rfl, rfl⟩
    · exact absurd (by decide) hc
theorem c_needF (g : Int32) {f : Nat} (hf : f < 1000) (h8 : I 8 = nI f) : Do m_Mo_need [.ref 48, .int g] (hM T I B S D) (fun r h' => r = none ∧ h' = hM T I B S D) := by
  iterate 2 refine go_s rfl rfl rfl trivial ?_
  rw [h8]
  iterate 1 refine go_s rfl rfl rfl trivial ?_
  refine go_if (fun hc => ?_) (fun hc => ?_)
  · exact go_r rfl rfl rfl trivial ⟨rfl, rfl⟩
  · exact absurd (Int32.not_lt.mp (nI_pos (by omega))) hc
theorem c_need0 (h8 : I 8 = -1) : Do m_Mo_need [.ref 48, .int 0] (hM T I B S D) (fun r h' => r = none ∧ h' = hM T (va_up I 8 (I 7)) B S D) := by
  iterate 2 refine go_s rfl rfl rfl trivial ?_
  rw [h8]
  iterate 1 refine go_s rfl rfl rfl trivial ?_
  refine go_if (fun hc => ?_) (fun hc => ?_)
  · exact absurd hc (by decide)
  · iterate 2 refine go_s rfl rfl rfl trivial ?_
    refine go_if (fun hc => ?_) (fun hc => ?_)
    · exact absurd rfl hc
    · iterate 4 refine go_s rfl rfl rfl trivial ?_
      exact go_r rfl rfl rfl trivial ⟨rfl, rfl⟩
theorem l_skip (hn : P.2 ≤ 96) : ∀ (d p : Nat) (I : Nat → Int32), P.2 - p = d → p < 900 → gP P I B → I 7 = nI p → Go m_Mo_skip 0 [some (.ref 48)] [] (hM T I B S D) (fun r h' => r = none ∧ h' = hM T (va_up I 7 (nI (sk P p))) B S D) := by
  intro d
  induction d with
  | zero =>
    intro p I hd hp hP h7
    have h : sy P p ≠ 32 := by rw [sy_out (by omega)]; decide
    iterate 1 refine go_s rfl rfl rfl trivial ?_
    refine go_c rfl rfl rfl (c_here hP (by omega) h7) ?_
    rintro r h3 ⟨rfl, rfl⟩
    iterate 2 refine go_s rfl rfl rfl trivial ?_
    refine go_if (fun hc => ?_) (fun hc => ?_)
    · refine go_r rfl rfl rfl trivial ⟨rfl, ?_⟩
      rw [sk_no h, ← h7, up_idG]
    · exact absurd ((hereI_eq hP.lt (by decide)).mp (Classical.not_not.mp hc)) h
  | succ d ih =>
    intro p I hd hp hP h7
    iterate 1 refine go_s rfl rfl rfl trivial ?_
    refine go_c rfl rfl rfl (c_here hP (by omega) h7) ?_
    rintro r h3 ⟨rfl, rfl⟩
    iterate 2 refine go_s rfl rfl rfl trivial ?_
    refine go_if (fun hc => ?_) (fun hc => ?_)
    · have h : sy P p ≠ 32 := fun q => hc ((hereI_eq hP.lt (by decide)).mpr q)
      refine go_r rfl rfl rfl trivial ⟨rfl, ?_⟩
      rw [sk_no h, ← h7, up_idG]
    · have h : sy P p = 32 := (hereI_eq hP.lt (by decide)).mp (Classical.not_not.mp hc)
      iterate 5 refine go_s rfl rfl rfl trivial ?_
      rw [h7, nI_1]
      iterate 2 refine go_s rfl rfl rfl trivial ?_
      refine (ih (p + 1) (va_up I 7 (nI (p + 1))) (by omega) (by omega) (hP.keep rfl rfl) (va_up_self _ _ _)).mono fun r h' g => ?_
      rw [sk_yes h]
      rw [bx_uu] at g
      exact g
theorem c_skip (hP : gP P I B) {p : Nat} (hp : p < 900) (h7 : I 7 = nI p) : Do m_Mo_skip [.ref 48] (hM T I B S D) (fun r h' => r = none ∧ h' = hM T (va_up I 7 (nI (sk P p))) B S D) := l_skip hP.2.1 _ p I rfl hp hP h7
theorem c_isPart (hP : gP P I B) {p : Nat} (hp : p < 1000) (h7 : I 7 = nI p) : Do m_Mo_isPart [.ref 48] (hM T I B S D) (fun r h' => r = some (.int (b01 (sy P p = 45 ∨ sy P p = 34 ∨ lq P p ≠ 0))) ∧ h' = hM T I B S D) := by
  iterate 1 refine go_s rfl rfl rfl trivial ?_
  refine go_c rfl rfl rfl (c_here hP (by omega) h7) ?_
  rintro r h3 ⟨rfl, rfl⟩
  iterate 2 refine go_s rfl rfl rfl trivial ?_
  refine go_if (fun hc => ?_) (fun hc => ?_)
  · iterate 2 refine go_s rfl rfl rfl trivial ?_
    refine go_r rfl rfl rfl (Or.inr rfl) ⟨?_, rfl⟩
    rw [b01_t (Or.inl ((hereI_eq hP.lt (by decide)).mp hc))]
  · have h1 : ¬ sy P p = 45 := fun q => hc ((hereI_eq hP.lt (by decide)).mpr q)
    iterate 1 refine go_s rfl rfl rfl trivial ?_
    refine go_c rfl rfl rfl (c_here hP (by omega) h7) ?_
    rintro r h3 ⟨rfl, rfl⟩
    iterate 2 refine go_s rfl rfl rfl trivial ?_
    refine go_if (fun hc2 => ?_) (fun hc2 => ?_)
    · iterate 2 refine go_s rfl rfl rfl trivial ?_
      refine go_r rfl rfl rfl (Or.inr rfl) ⟨?_, rfl⟩
      rw [b01_t (Or.inr (Or.inl ((hereI_eq hP.lt (by decide)).mp hc2)))]
    · have h2 : ¬ sy P p = 34 := fun q => hc2 ((hereI_eq hP.lt (by decide)).mpr q)
      iterate 1 refine go_s rfl rfl rfl trivial ?_
      refine go_c rfl rfl rfl (c_isLetter hP (by omega) h7) ?_
      rintro r h3 ⟨rfl, rfl⟩
      iterate 1 refine go_s rfl rfl rfl trivial ?_
      refine go_if (fun hc3 => ?_) (fun hc3 => ?_)
      · iterate 1 refine go_s rfl rfl rfl trivial ?_
        refine go_r rfl rfl rfl (Or.inl rfl) ⟨?_, rfl⟩
        rw [b01_f]
        rintro (q | q | q)
        · exact h1 q
        · exact h2 q
        · exact b01_eq0.mp hc3 q
      · iterate 2 refine go_s rfl rfl rfl trivial ?_
        refine go_r rfl rfl rfl (Or.inr rfl) ⟨?_, rfl⟩
        rw [b01_t (Or.inr (Or.inr (Classical.not_not.mp fun q => hc3 (b01_f q))))]
end MQ1
