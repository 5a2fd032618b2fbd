/-! ===== THE SPECIFICATION'S STATE, and the reference holding it ===== -/
noncomputable def ifp {α : Type} (P : Prop) (a b : α) : α := @ite α P (Classical.propDecidable P) a b
theorem ifp_t {α : Type} {P : Prop} (h : P) (a b : α) : ifp P a b = a := if_pos h
theorem ifp_f {α : Type} {P : Prop} (h : ¬ P) (a b : α) : ifp P a b = b := if_neg h
/-- the tape: bytes, how many -/
abbrev tx_P : Type := (Nat → Nat) × Nat
/-- stop words, rules of each language -/
abbrev tx_N : Type := (Nat → List (List Nat)) × (Nat → List (List Nat × List Nat))
/-- texts: how many, language (none: gone), field, how many words, words, where they begin, how long they are -/
abbrev tx_X : Type := Nat × (Nat → Option Nat) × (Nat → Nat) × (Nat → Nat) × (Nat → Nat → List Nat) × (Nat → Nat → Nat) × (Nat → Nat → Nat)
/-- answers: how many, texts, scores -/
abbrev tx_A : Type := Nat × (Nat → Nat) × (Nat → Int64)
/-- words that are like one -/
abbrev tx_L : Type := Nat × (Nat → List Nat)
abbrev tx_Z : Type := tx_P × tx_N × tx_X × tx_A × tx_L × List Nat
abbrev xnt (X : tx_X) : Nat := X.1
abbrev xlg (X : tx_X) : Nat → Option Nat := X.2.1
abbrev xfd (X : tx_X) : Nat → Nat := X.2.2.1
abbrev xcn (X : tx_X) : Nat → Nat := X.2.2.2.1
abbrev xwd (X : tx_X) : Nat → Nat → List Nat := X.2.2.2.2.1
abbrev xfr (X : tx_X) : Nat → Nat → Nat := X.2.2.2.2.2.1
abbrev xfu (X : tx_X) : Nat → Nat → Nat := X.2.2.2.2.2.2
abbrev zP (Z : tx_Z) : tx_P := Z.1
abbrev zN (Z : tx_Z) : tx_N := Z.2.1
abbrev zX (Z : tx_Z) : tx_X := Z.2.2.1
abbrev zA (Z : tx_Z) : tx_A := Z.2.2.2.1
abbrev zL (Z : tx_Z) : tx_L := Z.2.2.2.2.1
abbrev zS (Z : tx_Z) : List Nat := Z.2.2.2.2.2
/-- the stem that a word has in texts -/
noncomputable def nE (N : tx_N) (l : Nat) (w : List Nat) : Option (List Nat) := ifp (w ∈ N.1 l) none (some (stemF (N.2 l) w))
def nst (N : tx_N) : Nat := (N.1 0).length + (N.1 1).length + (N.1 2).length
noncomputable def xhere (X : tx_X) : Nat := cnt (fun t => xlg X t ≠ none) (xnt X)
/-- the reference's groups -/
def gP (P : tx_P) (I : Nat → Int32) (B : Nat → Nat → Int32) : Prop := mtape I B P.1 P.2
def gN (N : tx_N) (I : Nat → Int32) (B : Nat → Nat → Int32) (μ : Nat → List Nat) : Prop := I 3 = nI (nst N) ∧ nst N ≤ 2000 ∧ ∀ l, l < 3 → B 9 l = nI (N.2 l).length ∧ (N.2 l).length ≤ 8 ∧ rl μ l 0 (N.2 l).length = N.2 l ∧ ∀ w, stopQ (nst N) B μ (nI l) w ↔ w ∈ N.1 l
def gX (X : tx_X) (I : Nat → Int32) (B : Nat → Nat → Int32) (μ : Nat → List Nat) : Prop := mtx I B μ (xnt X) (xlg X) (xfd X) (xcn X) (xwd X) ∧ (∀ t, t < xnt X → ∀ p, p < xcn X t → B 6 (48 * t + p) = nI (xfr X t p) ∧ B 7 (48 * t + p) = nI (xfu X t p)) ∧ I 2 = nI (xnt X - xhere X)
def gA (A : tx_A) (I : Nat → Int32) (B : Nat → Nat → Int32) (S : Nat → Int64) : Prop := mans I B S A.1 A.2.1 A.2.2
def gL (L : tx_L) (I : Nat → Int32) (μ : Nat → List Nat) : Prop := I 10 = nI L.1 ∧ L.1 ≤ 1920 ∧ ∀ i, i < L.1 → μ (4112 + i) = L.2 i
def gS (s : List Nat) (I : Nat → Int32) (B : Nat → Nat → Int32) : Prop := mshown I B s
def tx_m (Z : tx_Z) (I : Nat → Int32) (B : Nat → Nat → Int32) (S : Nat → Int64) (μ : Nat → List Nat) : Prop := wm B μ ∧ gP (zP Z) I B ∧ gN (zN Z) I B μ ∧ gX (zX Z) I B μ ∧ gA (zA Z) I B S ∧ gL (zL Z) I μ ∧ gS (zS Z) I B
theorem gP.keep {P : tx_P} {I I' : Nat → Int32} {B B' : Nat → Nat → Int32} (h : gP P I B) (h0 : I' 0 = I 0) (h2 : B' 2 = B 2) : gP P I' B' := by
  obtain ⟨a1, a2, a3⟩ := h
  exact ⟨h0.trans a1, a2, fun j hj => by rw [h2]; exact a3 j hj⟩
theorem gN.keep {N : tx_N} {I I' : Nat → Int32} {B B' : Nat → Nat → Int32} {μ μ' : Nat → List Nat} (h : gN N I B μ) (hI : I' 3 = I 3) (hB8 : B' 8 = B 8) (hB9 : B' 9 = B 9) (hm : ∀ a, 1920 ≤ a → a < 3968 → μ' a = μ a) : gN N I' B' μ' := by
  obtain ⟨h1, h2, h3⟩ := h
  refine ⟨hI.trans h1, h2, fun l hl => ?_⟩
  obtain ⟨k1, k2, k3, k4⟩ := h3 l hl
  refine ⟨by rw [hB9]; exact k1, k2, ?_, fun w => ?_⟩
  · rw [rl_keep hl (fun a h1 h2 => hm a (by omega) h2) _ 0 (by omega)]
    exact k3
  · rw [← k4 w]
    constructor
    · rintro ⟨k, k1, k2, k3⟩
      exact ⟨k, k1, by rw [← hB8]; exact k2, by rw [← hm (1920 + k) (by omega) (by omega)]; exact k3⟩
    · rintro ⟨k, k1, k2, k3⟩
      exact ⟨k, k1, by rw [hB8]; exact k2, by rw [hm (1920 + k) (by omega) (by omega)]; exact k3⟩
theorem gN.env {N : tx_N} {I : Nat → Int32} {B : Nat → Nat → Int32} {μ : Nat → List Nat} (h : gN N I B μ) : menv I B μ (nE N) := by
  obtain ⟨h1, h2, h3⟩ := h
  refine ⟨nst N, fun l => (N.2 l).length, h1, h2, fun l hl => ⟨(h3 l hl).1, (h3 l hl).2.1⟩, fun l hl w => ⟨fun q => ?_, fun q => ?_⟩⟩
  · exact ifp_t (((h3 l hl).2.2.2 w).mp q) _ _
  · rw [(h3 l hl).2.2.1]
    exact ifp_f (fun q2 => q (((h3 l hl).2.2.2 w).mpr q2)) _ _
theorem gX.keep {X : tx_X} {I I' : Nat → Int32} {B B' : Nat → Nat → Int32} {μ μ' : Nat → List Nat} (h : gX X I B μ) (h1 : I' 1 = I 1) (h2 : I' 2 = I 2) (hB : ∀ i, 3 ≤ i → i ≤ 7 → B' i = B i) (hm : ∀ a, a < 1920 → μ' a = μ a) : gX X I' B' μ' := by
  obtain ⟨⟨a1, a2, a3⟩, a4, a5⟩ := h
  refine ⟨⟨h1.trans a1, a2, fun t ht => ?_⟩, fun t ht p hp => ?_, h2.trans a5⟩
  · obtain ⟨k1, k2, k3, k4, k5, k6, k7⟩ := a3 t ht
    refine ⟨by rw [hB 3 (by omega) (by omega)]; exact k1, k2, by rw [hB 4 (by omega) (by omega)]; exact k3, k4, by rw [hB 5 (by omega) (by omega)]; exact k5, k6, fun p hp => ?_⟩
    rw [hm _ (by omega)]
    exact k7 p hp
  · rw [hB 6 (by omega) (by omega), hB 7 (by omega) (by omega)]
    exact a4 t ht p hp
theorem gA.keep {A : tx_A} {I I' : Nat → Int32} {B B' : Nat → Nat → Int32} {S : Nat → Int64} (h : gA A I B S) (h9 : I' 9 = I 9) (hB : B' 16 = B 16) : gA A I' B' S := by
  obtain ⟨a1, a2, a3⟩ := h
  exact ⟨h9.trans a1, a2, fun i hi => by rw [hB]; exact a3 i hi⟩
theorem gL.keep {L : tx_L} {I I' : Nat → Int32} {μ μ' : Nat → List Nat} (h : gL L I μ) (hI : I' 10 = I 10) (hm : ∀ a, 4112 ≤ a → a < 6032 → μ' a = μ a) : gL L I' μ' := by
  obtain ⟨a1, a2, a3⟩ := h
  exact ⟨hI.trans a1, a2, fun i hi => by rw [hm _ (by omega) (by omega)]; exact a3 i hi⟩
theorem gS.keep {s : List Nat} {I I' : Nat → Int32} {B B' : Nat → Nat → Int32} (h : gS s I B) (hI : I' 11 = I 11) (hB : B' 18 = B 18) : gS s I' B' := by
  obtain ⟨a1, a2, a3⟩ := h
  exact ⟨hI.trans a1, a2, fun i hi => by rw [hB]; exact a3 i hi⟩
/-- only words at places in use for a moment have changed -/
theorem tx_m.keepc {Z : tx_Z} {I : Nat → Int32} {B B' : Nat → Nat → Int32} {S : Nat → Int64} {μ μ' : Nat → List Nat} (h : tx_m Z I B S μ) (hs : wsame B B') (hw : wm B' μ') (hm : ∀ a, a < 3968 ∨ (4112 ≤ a ∧ a < 6032) → μ' a = μ a) : tx_m Z I B' S μ' := by
  obtain ⟨h1, h2, h3, h4, h5, h6, h7⟩ := h
  exact ⟨hw, h2.keep rfl (hs 2 (by omega)), h3.keep rfl (hs 8 (by omega)) (hs 9 (by omega)) (fun a _ b => hm a (Or.inl b)), h4.keep rfl rfl (fun i a _ => hs i (by omega)) (fun a b => hm a (Or.inl (by omega))), h5.keep rfl (hs 16 (by omega)), h6.keep rfl (fun a x y => hm a (Or.inr ⟨x, y⟩)), h7.keep rfl (hs 18 (by omega))⟩
/-! ===== the reference: remove, texts, place, word, at, answer, score, stems ===== -/
def isT (X : tx_X) (x : Int32) : Prop := 0 ≤ x ∧ x < nI (xnt X) ∧ xlg X x.toNatClampNeg ≠ none
theorem isT_nat {X : tx_X} {x : Int32} (h : isT X x) (h40 : xnt X ≤ 40) : ∃ t, t < xnt X ∧ x = nI t ∧ xlg X t ≠ none := by
  obtain ⟨h1, h2, h3⟩ := h
  obtain ⟨t, ht, rfl⟩ := nI_of (Int32.not_lt.mpr h1)
  rw [nI_clamp ht] at h3
  exact ⟨t, (nI_ltI ht (by omega)).mp h2, rfl, h3⟩
theorem isT_of {X : tx_X} {t : Nat} (h40 : xnt X ≤ 40) (ht : t < xnt X) (hl : xlg X t ≠ none) : isT X (nI t) := by
  refine ⟨Int32.not_lt.mp (nI_pos (by omega)), (nI_ltI (by omega) (by omega)).mpr ht, ?_⟩
  rw [nI_clamp (by omega)]
  exact hl
theorem lgI_neg {o : Option Nat} (ho : ∀ k, o = some k → k < 3) : lgI o < 0 ↔ o = none := by
  cases o with
  | none => exact ⟨fun _ => rfl, fun _ => by decide⟩
  | some k => exact ⟨fun q => absurd q (nI_pos (by have := ho k rfl; omega)), fun q => by cases q⟩
def xrm (X : tx_X) (t : Nat) : tx_X := (X.1, va_up X.2.1 t none, X.2.2)
noncomputable def spRemove (Z : tx_Z) (x : Int32) : Int32 × tx_Z := ifp (isT (zX Z) x) (1, (zP Z, zN Z, xrm (zX Z) x.toNatClampNeg, Z.2.2.2)) (-1, Z)
noncomputable def spPlace (Z : tx_Z) (t p k : Int32) : Int32 := ifp (isT (zX Z) t ∧ 0 ≤ p ∧ p < nI (xcn (zX Z) t.toNatClampNeg) ∧ 0 ≤ k ∧ k ≤ 1) (ifp (k = 0) (nI (xfr (zX Z) t.toNatClampNeg p.toNatClampNeg)) (nI (xfu (zX Z) t.toNatClampNeg p.toNatClampNeg))) (-1)
noncomputable def spWord (Z : tx_Z) (x : Int32) : Int32 × tx_Z := ifp (0 ≤ x ∧ x < nI (zL Z).1) (nI ((zL Z).2 x.toNatClampNeg).length, (zP Z, zN Z, zX Z, zA Z, zL Z, (zL Z).2 x.toNatClampNeg)) (-2, Z)
noncomputable def spStems (Z : tx_Z) (x : Int32) : Int32 := ifp (isL x) (nI (sumN (stT (nE (zN Z)) (xlg (zX Z)) (xcn (zX Z)) (xwd (zX Z)) x.toNatClampNeg) (xnt (zX Z)))) (-1)
theorem cnt_del {P P' : Nat → Prop} {t : Nat} (h : ∀ j, P' j ↔ P j ∧ j ≠ t) (hp : P t) : ∀ n, (t < n → cnt P' n + 1 = cnt P n) ∧ (n ≤ t → cnt P' n = cnt P n)
  | 0 => ⟨fun q => absurd q (Nat.not_lt_zero _), fun _ => rfl⟩
  | n + 1 => by
    obtain ⟨i1, i2⟩ := cnt_del h hp n
    refine ⟨fun q => ?_, fun q => ?_⟩
    · by_cases e : t = n
      · subst e
        rw [cnt_t hp, cnt_f (fun q => ((h t).mp q).2 rfl), i2 (Nat.le_refl _)]
      · by_cases q1 : P n
        · rw [cnt_t q1, cnt_t ((h n).mpr ⟨q1, fun q => e q.symm⟩), i1 (by omega)]
        · rw [cnt_f q1, cnt_f (fun q => q1 ((h n).mp q).1), i1 (by omega)]
    · by_cases q1 : P n
      · rw [cnt_t q1, cnt_t ((h n).mpr ⟨q1, fun q => by omega⟩), i2 (by omega)]
      · rw [cnt_f q1, cnt_f (fun q => q1 ((h n).mp q).1), i2 (by omega)]
section MSIMPLE
variable {T : Nat → am_C} {D : List am_C} {I : Nat → Int32} {B : Nat → Nat → Int32} {S : Nat → Int64} {μ : Nat → List Nat}
theorem c_isText {X : tx_X} (hX : gX X I B μ) (x : Int32) : Do m_Mo_isText [.ref 48, .int x] (hM T I B S D) (fun r h' => r = some (.int (b01 (isT X x))) ∧ h' = hM T I B S D) := by
  obtain ⟨⟨x1, x2, x3⟩, -, -⟩ := hX
  iterate 2 refine go_s rfl rfl rfl trivial ?_
  refine go_if (fun h1 => ?_) (fun h1 => ?_)
  · iterate 1 refine go_s rfl rfl rfl trivial ?_
    refine go_r rfl rfl rfl (Or.inl rfl) ⟨?_, rfl⟩
    rw [b01_f (fun q => absurd h1 (Int32.not_lt.mpr q.1))]
  · iterate 3 refine go_s rfl rfl rfl trivial ?_
    rw [x1]
    iterate 1 refine go_s rfl rfl rfl trivial ?_
    refine go_if (fun h2 => ?_) (fun h2 => ?_)
    · iterate 1 refine go_s rfl rfl rfl trivial ?_
      refine go_r rfl rfl rfl (Or.inl rfl) ⟨?_, rfl⟩
      rw [b01_f (fun q => absurd q.2.1 (Int32.not_lt.mpr h2))]
    · obtain ⟨t, ht, rfl⟩ := nI_of h1
      have htn : t < xnt X := (nI_ltI ht (by omega)).mp (Int32.not_le.mp h2)
      obtain ⟨k1, k2, -⟩ := x3 t htn
      have ct : (nI t).toNatClampNeg = t := nI_clamp (by omega)
      iterate 3 refine go_s rfl rfl rfl trivial ?_
      refine go_s rfl rfl rfl ?_ ?_
      · exact vp_in_nI (by omega) (by omega)
      simp only [ct, k1]
      iterate 1 refine go_s rfl rfl rfl trivial ?_
      refine go_if (fun hc => ?_) (fun hc => ?_)
      · iterate 1 refine go_s rfl rfl rfl trivial ?_
        refine go_r rfl rfl rfl (Or.inl rfl) ⟨?_, rfl⟩
        rw [b01_f (fun q => q.2.2 (by rw [ct]; exact (lgI_neg k2).mp hc))]
      · iterate 2 refine go_s rfl rfl rfl trivial ?_
        refine go_r rfl rfl rfl (Or.inr rfl) ⟨?_, rfl⟩
        rw [b01_t (isT_of x2 htn (fun q => hc ((lgI_neg k2).mpr q)))]
theorem c_remove {Z : tx_Z} (hZ : tx_m Z I B S μ) (x : Int32) : Do m_Mo_remove [.ref 48, .int x] (hM T I B S D) (fun r h' => r = some (.int (spRemove Z x).1) ∧ ∃ I' B', h' = hM T I' B' S D ∧ tx_m (spRemove Z x).2 I' B' S μ) := by
  obtain ⟨h1, h2, h3, h4, h5, h6, h7⟩ := id hZ
  iterate 2 refine go_s rfl rfl rfl trivial ?_
  refine go_c rfl rfl rfl (c_isText h4 x) ?_
  rintro r h0 ⟨rfl, rfl⟩
  iterate 1 refine go_s rfl rfl rfl trivial ?_
  refine go_if (fun hc => ?_) (fun hc => ?_)
  · have hq : isT (zX Z) x := Classical.not_not.mp fun q => hc (b01_f q)
    obtain ⟨t, ht, rfl, hl⟩ := isT_nat hq h4.1.2.1
    have ct : (nI t).toNatClampNeg = t := nI_clamp (by have := h4.1.2.1; omega)
    rw [spRemove, ifp_t hq, ct]
    iterate 4 refine go_s rfl rfl rfl trivial ?_
    refine go_s rfl rfl rfl ?_ ?_
    · exact vp_in_nI (by have := h4.1.2.1; omega) (by omega)
    simp only [ct]
    iterate 7 refine go_s rfl rfl rfl trivial ?_
    have e1 : ∀ j, va_up (xlg (zX Z)) t none j ≠ none ↔ xlg (zX Z) j ≠ none ∧ j ≠ t := by
      intro j
      by_cases e : j = t
      · subst e; rw [va_up_self]; simp
      · rw [va_up_ne _ _ e]; simp [e]
    have e2 := (cnt_del (P := fun t => xlg (zX Z) t ≠ none) (P' := fun j => va_up (xlg (zX Z)) t none j ≠ none) e1 hl (xnt (zX Z))).1 ht
    have e3 := cnt_le (fun t => xlg (zX Z) t ≠ none) (xnt (zX Z))
    refine go_r rfl rfl rfl trivial ⟨rfl, va_up I 2 (I 2 + 1), va_up B 3 (upd (B 3) t (-1)), rfl, ?_, ?_, ?_, ⟨⟨?_, h4.1.2.1, fun j hj => ?_⟩, fun j hj p hp => ?_, ?_⟩, ?_, ?_, ?_⟩
    · exact h1.keep2 rfl rfl
    · exact h2.keep rfl rfl
    · exact h3.keep rfl rfl rfl (fun _ _ _ => rfl)
    · rw [va_up_ne _ _ (by decide)]; exact h4.1.1
    · obtain ⟨k1, k2, k3, k4, k5, k6, k7⟩ := h4.1.2.2 j hj
      refine ⟨?_, fun l hl => ?_, k3, k4, k5, k6, k7⟩
      · show va_up B 3 (upd (B 3) t (-1)) 3 j = lgI (va_up (xlg (zX Z)) t none j)
        rw [va_up_self]
        by_cases e : j = t
        · subst e; rw [pk_us, va_up_self]; rfl
        · rw [pk_un e, va_up_ne _ _ e]; exact k1
      · have hl' : va_up (xlg (zX Z)) t none j = some l := hl
        by_cases e : j = t
        · subst e; rw [va_up_self] at hl'; cases hl'
        · rw [va_up_ne _ _ e] at hl'; exact k2 l hl'
    · exact h4.2.1 j hj p hp
    · rw [va_up_self, h4.2.2, nI_1]
      congr 1
      show xnt (zX Z) - xhere (zX Z) + 1 = xnt (zX Z) - cnt (fun j => va_up (xlg (zX Z)) t none j ≠ none) (xnt (zX Z))
      rw [xhere]
      omega
    · exact h5.keep rfl rfl
    · exact h6.keep rfl (fun _ _ _ => rfl)
    · exact h7.keep rfl rfl
  · have hq : ¬ isT (zX Z) x := fun q => hc (by rw [b01_t q]; decide)
    rw [spRemove, ifp_f hq]
    iterate 1 refine go_s rfl rfl rfl trivial ?_
    exact go_r rfl rfl rfl trivial ⟨rfl, I, B, rfl, hZ⟩
theorem c_texts {X : tx_X} (hX : gX X I B μ) : Do m_Mo_texts [.ref 48] (hM T I B S D) (fun r h' => r = some (.int (nI (xhere X))) ∧ h' = hM T I B S D) := by
  obtain ⟨⟨x1, x2, x3⟩, -, x5⟩ := hX
  iterate 5 refine go_s rfl rfl rfl trivial ?_
  refine go_r rfl rfl rfl trivial ⟨?_, rfl⟩
  have e3 := cnt_le (fun t => xlg X t ≠ none) (xnt X)
  rw [x1, x5, pk_sub (by omega)]
  congr 3
  rw [xhere]
  omega
theorem c_place {Z : tx_Z} (hX : gX (zX Z) I B μ) (x p k : Int32) : Do m_Mo_place [.ref 48, .int x, .int p, .int k] (hM T I B S D) (fun r h' => r = some (.int (spPlace Z x p k)) ∧ h' = hM T I B S D) := by
  obtain ⟨⟨x1, x2, x3⟩, x4, x5⟩ := id hX
  have bad : ∀ {m pc : Nat}, ¬ (isT (zX Z) x ∧ 0 ≤ p ∧ p < nI (xcn (zX Z) x.toNatClampNeg) ∧ 0 ≤ k ∧ k ≤ 1) → spPlace Z x p k = -1 := fun h => ifp_f h _ _
  iterate 2 refine go_s rfl rfl rfl trivial ?_
  refine go_c rfl rfl rfl (c_isText hX x) ?_
  rintro r h0 ⟨rfl, rfl⟩
  iterate 1 refine go_s rfl rfl rfl trivial ?_
  refine go_if (fun hc => ?_) (fun hc => ?_)
  · iterate 1 refine go_s rfl rfl rfl trivial ?_
    refine go_r rfl rfl rfl trivial ⟨?_, rfl⟩
    rw [spPlace, ifp_f (fun q => b01_eq0.mp hc q.1)]
  · have hq : isT (zX Z) x := Classical.not_not.mp fun q => hc (b01_f q)
    obtain ⟨t, ht, rfl, hl⟩ := isT_nat hq x2
    have ct : (nI t).toNatClampNeg = t := nI_clamp (by omega)
    obtain ⟨k1, k2, k3, k4, k5, k6, k7⟩ := x3 t ht
    iterate 2 refine go_s rfl rfl rfl trivial ?_
    refine go_if (fun h1 => ?_) (fun h1 => ?_)
    · iterate 1 refine go_s rfl rfl rfl trivial ?_
      refine go_r rfl rfl rfl trivial ⟨?_, rfl⟩
      rw [spPlace, ifp_f (fun q => absurd h1 (Int32.not_lt.mpr q.2.1))]
    · obtain ⟨j, hj, rfl⟩ := nI_of h1
      have cj : (nI j).toNatClampNeg = j := nI_clamp (by omega)
      iterate 4 refine go_s rfl rfl rfl trivial ?_
      refine go_s rfl rfl rfl ?_ ?_
      · exact vp_in_nI (by omega) (by omega)
      simp only [ct, k5]
      iterate 1 refine go_s rfl rfl rfl trivial ?_
      refine go_if (fun h2 => ?_) (fun h2 => ?_)
      · iterate 1 refine go_s rfl rfl rfl trivial ?_
        refine go_r rfl rfl rfl trivial ⟨?_, rfl⟩
        rw [spPlace, ct, ifp_f (fun q => absurd q.2.2.1 (Int32.not_lt.mpr h2))]
      · have hjc : j < xcn (zX Z) t := (nI_ltI hj (by omega)).mp (Int32.not_le.mp h2)
        have e1 : (48 : Int32) * nI t + nI j = nI (48 * t + j) := by
          rw [show (48 : Int32) = nI 48 from rfl, pk_mul, nI_add]
        have c1 : (nI (48 * t + j)).toNatClampNeg = 48 * t + j := nI_clamp (by omega)
        obtain ⟨y1, y2⟩ := x4 t ht j hjc
        iterate 2 refine go_s rfl rfl rfl trivial ?_
        refine go_if (fun h3 => ?_) (fun h3 => ?_)
        · iterate 1 refine go_s rfl rfl rfl trivial ?_
          refine go_r rfl rfl rfl trivial ⟨?_, rfl⟩
          rw [spPlace, ifp_f (fun q => absurd h3 (Int32.not_lt.mpr q.2.2.2.1))]
        · iterate 3 refine go_s rfl rfl rfl trivial ?_
          refine go_if (fun h4 => ?_) (fun h4 => ?_)
          · have hall : isT (zX Z) (nI t) ∧ 0 ≤ nI j ∧ nI j < nI (xcn (zX Z) (nI t).toNatClampNeg) ∧ 0 ≤ k ∧ k ≤ 1 := ⟨hq, Int32.not_lt.mp h1, by rw [ct]; exact Int32.not_le.mp h2, Int32.not_lt.mp h3, h4⟩
            rw [spPlace, ifp_t hall, ct, cj]
            iterate 2 refine go_s rfl rfl rfl trivial ?_
            refine go_if (fun hc => ?_) (fun hc => ?_)
            · iterate 7 refine go_s rfl rfl rfl trivial ?_
              rw [e1]
              refine go_s rfl rfl rfl ?_ ?_
              · exact vp_in_nI (by omega) (by omega)
              simp only [c1, y2]
              refine go_r rfl rfl rfl trivial ⟨?_, rfl⟩
              rw [ifp_f hc]
            · iterate 7 refine go_s rfl rfl rfl trivial ?_
              rw [e1]
              refine go_s rfl rfl rfl ?_ ?_
              · exact vp_in_nI (by omega) (by omega)
              simp only [c1, y1]
              iterate 1 refine go_s rfl rfl rfl trivial ?_
              refine go_r rfl rfl rfl trivial ⟨?_, rfl⟩
              rw [ifp_t (Classical.not_not.mp hc)]
          · iterate 1 refine go_s rfl rfl rfl trivial ?_
            refine go_r rfl rfl rfl trivial ⟨?_, rfl⟩
            rw [spPlace, ifp_f (fun q => h4 q.2.2.2.2)]
theorem c_word {Z : tx_Z} (hZ : tx_m Z I B S μ) (x : Int32) : Do m_Mo_word [.ref 48, .int x] (hM T I B S D) (fun r h' => r = some (.int (spWord Z x).1) ∧ ∃ I' B', h' = hM T I' B' S D ∧ tx_m (spWord Z x).2 I' B' S μ) := by
  obtain ⟨h1, h2, h3, h4, h5, h6, h7⟩ := id hZ
  obtain ⟨l1, l2, l3⟩ := id h6
  iterate 2 refine go_s rfl rfl rfl trivial ?_
  refine go_if (fun q1 => ?_) (fun q1 => ?_)
  · iterate 1 refine go_s rfl rfl rfl trivial ?_
    rw [spWord, ifp_f (fun q => absurd q1 (Int32.not_lt.mpr q.1))]
    exact go_r rfl rfl rfl trivial ⟨rfl, I, B, rfl, hZ⟩
  · iterate 3 refine go_s rfl rfl rfl trivial ?_
    rw [l1]
    iterate 1 refine go_s rfl rfl rfl trivial ?_
    refine go_if (fun q2 => ?_) (fun q2 => ?_)
    · iterate 1 refine go_s rfl rfl rfl trivial ?_
      rw [spWord, ifp_f (fun q => absurd q.2 (Int32.not_lt.mpr q2))]
      exact go_r rfl rfl rfl trivial ⟨rfl, I, B, rfl, hZ⟩
    · rw [spWord, ifp_t ⟨Int32.not_lt.mp q1, Int32.not_le.mp q2⟩]
      obtain ⟨j, hj, rfl⟩ := nI_of q1
      have hjl : j < (zL Z).1 := (nI_ltI hj (by omega)).mp (Int32.not_le.mp q2)
      have cj : (nI j).toNatClampNeg = j := nI_clamp (by omega)
      rw [cj]
      iterate 4 refine go_s rfl rfl rfl trivial ?_
      rw [show (4112 : Int32) + nI j = nI (4112 + j) by rw [show (4112 : Int32) = nI 4112 from rfl, nI_add]]
      refine go_c rfl rfl rfl (c_show h1 (a := 4112 + j) (by omega)) ?_
      rintro r h0 ⟨rfl, B1, rfl, hB1, hs1⟩
      rw [l3 j hjl] at hs1 ⊢
      iterate 1 refine go_s rfl rfl rfl trivial ?_
      refine go_r rfl rfl rfl trivial ⟨rfl, _, B1, rfl, h1.keep2 (hB1 0 (by decide)) (hB1 1 (by decide)), h2.keep rfl (hB1 2 (by decide)), h3.keep rfl (hB1 8 (by decide)) (hB1 9 (by decide)) (fun _ _ _ => rfl), h4.keep rfl rfl (fun i a b => hB1 i (by omega)) (fun _ _ => rfl), h5.keep rfl (hB1 16 (by decide)), h6.keep rfl (fun _ _ _ => rfl), hs1⟩
theorem c_stems_Z {Z : tx_Z} (hZ : tx_m Z I B S μ) (x : Int32) : Do m_Mo_stems [.ref 48, .int x] (hM T I B S D) (fun r h' => r = some (.int (spStems Z x)) ∧ ∃ B' μ', h' = hM T I B' S D ∧ tx_m Z I B' S μ') := by
  obtain ⟨h1, h2, h3, h4, h5, h6, h7⟩ := id hZ
  refine (c_stems h1 h3.env h4.1 x).mono fun r h' h => ?_
  obtain ⟨g1, B1, μ1, g2, g3⟩ := h
  refine ⟨?_, B1, μ1, g2, hZ.keepc g3.1 g3.2.1 (fun a ha => g3.2.2 a (by omega))⟩
  rcases g1 with ⟨g4, rfl⟩ | ⟨l, g4, rfl, rfl⟩
  · rw [spStems, ifp_f g4]
  · have q : isL (nI l) := ⟨Int32.not_lt.mp (nI_pos (by omega)), (nI_ltI (a := l) (b := 3) (by omega) (by omega)).mpr g4⟩
    rw [spStems, ifp_t q, nI_clamp (by omega)]
end MSIMPLE
