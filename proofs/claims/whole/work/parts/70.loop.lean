/-! ===== the law's loop ===== -/
/-- room for stop words: 13 of them want 48 calls -/
def roomI (Z : tx_Z) (k : Nat) : Prop := ∃ c, c ≤ k ∧ (zP Z).2 ≤ 8 * c ∧ 13 * nst (zN Z) ≤ 48 * (k - c)
def sizI (k : Nat) (D : List am_C) (cp : Nat → Nat) : Prop := am_sz D + 192 ≤ 2 * (cp 0 + cp 1 + cp 2) + 5040 * k ∧ D.length + 96 ≤ cp 0 + cp 1 + cp 2 + 96 * k
theorem sizI.up {k : Nat} {D D' : List am_C} {cp cp' : Nat → Nat} (h : sizI k D cp) (hd : dB cp D cp' D') : sizI (k + 1) D' cp' := by
  obtain ⟨h1, h2⟩ := h
  obtain ⟨h3, h4⟩ := hd
  exact ⟨by omega, by omega⟩
theorem roomI.up {Z Z' : tx_Z} {k : Nat} (h : roomI Z k) (h1 : (zP Z').2 ≤ (zP Z).2) (h2 : nst (zN Z') = nst (zN Z)) : roomI Z' (k + 1) := by
  obtain ⟨c, g1, g2, g3⟩ := h
  exact ⟨c, by omega, by omega, by omega⟩
theorem ifp_e {α : Type} (P : Prop) (a b : α) : ifp P a b = a ∨ ifp P a b = b := by
  by_cases h : P
  · exact Or.inl (ifp_t h a b)
  · exact Or.inr (ifp_f h a b)
theorem ro_type {Z : tx_Z} {k : Nat} (h : roomI Z k) (v : Int64) (x : Int32) : roomI (spType Z v x).2 (k + 1) := by
  by_cases q : 1 ≤ x ∧ x ≤ 8
  · rw [spType, ifp_t q]
    by_cases q1 : 96 < (zP Z).2 + x.toNatClampNeg
    · rw [if_pos q1]
      exact h.up (Nat.le_refl _) rfl
    · rw [if_neg q1]
      obtain ⟨c, g1, g2, g3⟩ := h
      refine ⟨c + 1, by omega, ?_, ?_⟩
      · show (zP Z).2 + x.toNatClampNeg ≤ 8 * (c + 1)
        have : x.toNatClampNeg ≤ 8 := by
          have e := q.2
          rw [Int32.le_iff_toInt_le] at e
          have e8 : (8 : Int32).toInt = 8 := by decide
          rw [e8] at e
          show x.toInt.toNat ≤ 8
          omega
        omega
      · show 13 * nst (zN Z) ≤ 48 * (k + 1 - (c + 1))
        omega
  · rw [spType, ifp_f q]
    exact h.up (Nat.le_refl _) rfl
theorem ro_text {Z : tx_Z} {k : Nat} (h : roomI Z k) (x f : Int32) : roomI (spText Z x f).2 (k + 1) := by
  by_cases q : isL x ∧ 0 ≤ f ∧ f < 4
  · rw [spText, ifp_t q]
    by_cases q1 : xnt (zX Z) = 40 ∨ 400 < sumN (xcn (zX Z)) (xnt (zX Z)) + (zw Z).1
    · rw [if_pos q1]
      exact h.up (Nat.zero_le _) rfl
    · rw [if_neg q1]
      exact h.up (Nat.zero_le _) rfl
  · rw [spText, ifp_f q]
    exact h.up (Nat.le_refl _) rfl
theorem ro_remove {Z : tx_Z} {k : Nat} (h : roomI Z k) (x : Int32) : roomI (spRemove Z x).2 (k + 1) := by
  by_cases q : isT (zX Z) x
  · rw [spRemove, ifp_t q]
    exact h.up (Nat.le_refl _) rfl
  · rw [spRemove, ifp_f q]
    exact h.up (Nat.le_refl _) rfl
theorem stpF_n (N : tx_N) {l : Nat} (hl : l < 3) (ws : Nat → List Nat) : ∀ k, nst (stpF N l ws k).1 ≤ nst N + k
  | 0 => Nat.le_refl _
  | k + 1 => by
    have ih := stpF_n N hl ws k
    rw [stpF]
    by_cases q : ws k ∈ (stpF N l ws k).1.1 l
    · rw [ifp_t q]
      omega
    · rw [ifp_f q]
      show nst (va_up (stpF N l ws k).1.1 l ((stpF N l ws k).1.1 l ++ [ws k]), (stpF N l ws k).1.2) ≤ nst N + (k + 1)
      rw [nst_up hl]
      omega
theorem zw_len (Z : tx_Z) (h96 : (zP Z).2 ≤ 96) : 2 * (zw Z).1 ≤ (zP Z).2 + 1 ∧ (zw Z).1 ≤ 48 := by
  obtain ⟨i1, i2⟩ := wst_len (zP Z).1 (zP Z).2
  show 2 * (wst (zP Z).1 (zP Z).2).1 ≤ (zP Z).2 + 1 ∧ (wst (zP Z).1 (zP Z).2).1 ≤ 48
  cases hh : (wst (zP Z).1 (zP Z).2).2.1 with
  | true => have := i1 hh; omega
  | false => have := i2 hh; omega
theorem ro_stop {Z : tx_Z} {k : Nat} (h : roomI Z k) (h96 : (zP Z).2 ≤ 96) (x : Int32) : roomI (spStop Z x).2 (k + 1) := by
  by_cases q : isL x
  · rw [spStop, ifp_t q]
    obtain ⟨l, hl, rfl⟩ := isL_nat q
    have cl : (nI l).toNatClampNeg = l := nI_clamp (by omega)
    rw [cl]
    obtain ⟨c, g1, g2, g3⟩ := h
    have hn := stpF_n (zN Z) hl (zw Z).2.2.1 (zw Z).1
    have hz := zw_len Z h96
    refine ⟨0, Nat.zero_le _, Nat.zero_le _, ?_⟩
    show 13 * nst (stpF (zN Z) l (zw Z).2.2.1 (zw Z).1).1 ≤ 48 * (k + 1 - 0)
    omega
  · rw [spStop, ifp_f q]
    exact h.up (Nat.le_refl _) rfl
theorem ro_room {Z : tx_Z} {k : Nat} (h : roomI Z k) (hk : k ≤ 511) : nst (zN Z) + 48 ≤ 2000 := by
  obtain ⟨c, g1, g2, g3⟩ := h
  omega
theorem ro_ending {Z : tx_Z} {k : Nat} (h : roomI Z k) (x : Int32) : roomI (spEnding Z x).2 (k + 1) := by
  by_cases q : isL x
  · rw [spEnding, ifp_t q]
    by_cases q1 : (zw Z).1 = 0 ∨ 2 < (zw Z).1
    · rw [if_pos q1]
      exact h.up (Nat.zero_le _) rfl
    · rw [if_neg q1]
      by_cases q2 : ((zN Z).2 x.toNatClampNeg).length = 8
      · rw [if_pos q2]
        exact h.up (Nat.zero_le _) rfl
      · rw [if_neg q2]
        exact h.up (Nat.zero_le _) rfl
  · rw [spEnding, ifp_f q]
    exact h.up (Nat.le_refl _) rfl
theorem ro_stem {Z : tx_Z} {k : Nat} (h : roomI Z k) (x : Int32) : roomI (spStem Z x).2 (k + 1) := by
  by_cases q : isL x
  · rw [spStem, ifp_t q]
    by_cases q1 : (zw Z).1 = 0
    · rw [if_pos q1]
      exact h.up (Nat.zero_le _) rfl
    · rw [if_neg q1]
      exact h.up (Nat.zero_le _) rfl
  · rw [spStem, ifp_f q]
    exact h.up (Nat.le_refl _) rfl
theorem ro_ask {Z : tx_Z} {k : Nat} (h : roomI Z k) (x f : Int32) : roomI (spAsk Z x f).2 (k + 1) := by
  by_cases q : isL x ∧ -1 ≤ f ∧ f < 4
  · rw [spAsk, ifp_t q]
    cases quF (zP Z) 97 0 0 true q00 with
    | inl g => exact h.up (Nat.zero_le _) rfl
    | inr y => exact h.up (Nat.zero_le _) rfl
  · rw [spAsk, ifp_f q]
    exact h.up (Nat.le_refl _) rfl
theorem ro_like {Z : tx_Z} {k : Nat} (h : roomI Z k) (x m : Int32) : roomI (spLike Z x m).2 (k + 1) := by
  by_cases q : isL x ∧ 0 ≤ m ∧ m ≤ 3
  · rw [spLike, ifp_t q]
    by_cases q1 : (zw Z).1 = 0
    · rw [if_pos q1]
      exact h.up (Nat.zero_le _) rfl
    · rw [if_neg q1]
      exact h.up (Nat.zero_le _) rfl
  · rw [spLike, ifp_f q]
    exact h.up (Nat.le_refl _) rfl
theorem ro_word {Z : tx_Z} {k : Nat} (h : roomI Z k) (x : Int32) : roomI (spWord Z x).2 (k + 1) := by
  by_cases q : 0 ≤ x ∧ x < nI (zL Z).1
  · rw [spWord, ifp_t q]
    exact h.up (Nat.le_refl _) rfl
  · rw [spWord, ifp_f q]
    exact h.up (Nat.le_refl _) rfl
/-- behind k calls both hold one state of the specification -/
def lawI (L : Nat) (xs : Nat → Int32) (k : Nat) (h : List am_C) : Prop := ∃ Z J N G U p D cp I B S μ, h = am_hp (am_TC L xs J N G U p) (am_M I B S) D ∧ tx_c Z J N G U p D cp ∧ tx_m Z I B S μ ∧ roomI Z k ∧ sizI k D cp
def lawQ (L : Nat) (xs : Nat → Int32) (r : Option Value) (h' : List am_C) : Prop := r = some (.int 1) ∧ ∃ k, k ≤ 512 ∧ lawI L xs k h'
theorem go_pc {a b m : Nat} {ls : List (Option Value)} {st : List Value} {h : List am_C} {Q : Option Value → List am_C → Prop} (e : b = a) (kk : Go m a ls st h Q) : Go m b ls st h Q := e ▸ kk
theorem i_toN {x : Int32} {n : Nat} (h : x.toInt = (n : Int)) (hn : n < 1000) : x = nI n := by
  have e := nI_toInt (n := n) (by omega)
  exact Int32.toInt_inj.mp (h.trans e.symm)
section LLOOP
variable {L : Nat} {xs : Nat → Int32}

set_option maxRecDepth 8000 in
theorem a_type {k : Nat} {Z : tx_Z} {J : Nat → Int32} {N : Nat → Nat → Int32} {G : Nat → Nat → Int64} {U : Int64} {p : Nat → Nat} {D : List am_C} {cp : Nat → Nat} {I : Nat → Int32} {B : Nat → Nat → Int32} {S : Nat → Int64} {μ : Nat → List Nat} (hL : L ≤ 2048) (hk : 4 * k + 4 ≤ L) (hc : tx_c Z J N G U p D cp) (hm : tx_m Z I B S μ) (hr : roomI Z k) (hs : sizI k D cp) (nx : ∀ h, lawI L xs (k + 1) h → Go m_Law_law 534 [some (.ref 5), some (.ref 6), some (.ref 48), some (.int (nI (4 * k)))] [] h (lawQ L xs)) : Go m_Law_law 108 [some (.ref 5), some (.ref 6), some (.ref 48), some (.int (nI (4 * k)))] [] (hC L xs J N G U p (am_M I B S) D) (lawQ L xs) := by
  have v1 : vp_in (nI (4 * k) + 1) L := by
    rw [show (1 : Int32) = nI 1 from rfl, nI_add]
    exact vp_in_nI (by omega) (by omega)
  have v2 : vp_in (nI (4 * k) + 2) L := by
    rw [show (2 : Int32) = nI 2 from rfl, nI_add]
    exact vp_in_nI (by omega) (by omega)
  have v3 : vp_in (nI (4 * k) + 3) L := by
    rw [show (3 : Int32) = nI 3 from rfl, nI_add]
    exact vp_in_nI (by omega) (by omega)
  iterate 5 refine go_s rfl rfl rfl trivial ?_
  refine go_s rfl rfl rfl v1 ?_
  iterate 7 refine go_s rfl rfl rfl trivial ?_
  refine go_s rfl rfl rfl v2 ?_
  iterate 8 refine go_s rfl rfl rfl trivial ?_
  refine go_s rfl rfl rfl v3 ?_
  refine go_c rfl rfl rfl (c_TI_type hc _ _) ?_
  rintro r h3 ⟨rfl, J', N', G', U', p', D', cp', rfl, hc1, hd1⟩
  iterate 5 refine go_s rfl rfl rfl trivial ?_
  refine go_s rfl rfl rfl v1 ?_
  iterate 7 refine go_s rfl rfl rfl trivial ?_
  refine go_s rfl rfl rfl v2 ?_
  iterate 8 refine go_s rfl rfl rfl trivial ?_
  refine go_s rfl rfl rfl v3 ?_
  refine go_c rfl rfl rfl (c_type hm _ _) ?_
  rintro r h4 ⟨rfl, I', B', μ', rfl, hm1⟩
  refine go_s rfl rfl rfl trivial ?_
  refine go_if (fun _ => ?_) (fun hne => absurd rfl hne)
  exact nx _ ⟨_, _, _, _, _, _, _, _, _, _, _, _, rfl, hc1, hm1, ro_type hr _ _, hs.up hd1⟩
set_option maxRecDepth 8000 in
theorem a_text {k : Nat} {Z : tx_Z} {J : Nat → Int32} {N : Nat → Nat → Int32} {G : Nat → Nat → Int64} {U : Int64} {p : Nat → Nat} {D : List am_C} {cp : Nat → Nat} {I : Nat → Int32} {B : Nat → Nat → Int32} {S : Nat → Int64} {μ : Nat → List Nat} (hL : L ≤ 2048) (hk : 4 * k + 4 ≤ L) (hc : tx_c Z J N G U p D cp) (hm : tx_m Z I B S μ) (hr : roomI Z k) (hs : sizI k D cp) (nx : ∀ h, lawI L xs (k + 1) h → Go m_Law_law 534 [some (.ref 5), some (.ref 6), some (.ref 48), some (.int (nI (4 * k)))] [] h (lawQ L xs)) : Go m_Law_law 171 [some (.ref 5), some (.ref 6), some (.ref 48), some (.int (nI (4 * k)))] [] (hC L xs J N G U p (am_M I B S) D) (lawQ L xs) := by
  have v1 : vp_in (nI (4 * k) + 1) L := by
    rw [show (1 : Int32) = nI 1 from rfl, nI_add]
    exact vp_in_nI (by omega) (by omega)
  have v2 : vp_in (nI (4 * k) + 2) L := by
    rw [show (2 : Int32) = nI 2 from rfl, nI_add]
    exact vp_in_nI (by omega) (by omega)
  iterate 5 refine go_s rfl rfl rfl trivial ?_
  refine go_s rfl rfl rfl v1 ?_
  iterate 4 refine go_s rfl rfl rfl trivial ?_
  refine go_s rfl rfl rfl v2 ?_
  refine go_c rfl rfl rfl (c_TI_text hc _ _) ?_
  rintro r h3 ⟨rfl, J', N', G', U', p', D', cp', rfl, hc1, hd1⟩
  iterate 5 refine go_s rfl rfl rfl trivial ?_
  refine go_s rfl rfl rfl v1 ?_
  iterate 4 refine go_s rfl rfl rfl trivial ?_
  refine go_s rfl rfl rfl v2 ?_
  refine go_c rfl rfl rfl (c_text hm _ _) ?_
  rintro r h4 ⟨rfl, I', B', μ', rfl, hm1⟩
  refine go_s rfl rfl rfl trivial ?_
  refine go_if (fun _ => ?_) (fun hne => absurd rfl hne)
  exact nx _ ⟨_, _, _, _, _, _, _, _, _, _, _, _, rfl, hc1, hm1, ro_text hr _ _, hs.up hd1⟩
set_option maxRecDepth 8000 in
theorem a_remove {k : Nat} {Z : tx_Z} {J : Nat → Int32} {N : Nat → Nat → Int32} {G : Nat → Nat → Int64} {U : Int64} {p : Nat → Nat} {D : List am_C} {cp : Nat → Nat} {I : Nat → Int32} {B : Nat → Nat → Int32} {S : Nat → Int64} {μ : Nat → List Nat} (hL : L ≤ 2048) (hk : 4 * k + 4 ≤ L) (hc : tx_c Z J N G U p D cp) (hm : tx_m Z I B S μ) (hr : roomI Z k) (hs : sizI k D cp) (nx : ∀ h, lawI L xs (k + 1) h → Go m_Law_law 534 [some (.ref 5), some (.ref 6), some (.ref 48), some (.int (nI (4 * k)))] [] h (lawQ L xs)) : Go m_Law_law 204 [some (.ref 5), some (.ref 6), some (.ref 48), some (.int (nI (4 * k)))] [] (hC L xs J N G U p (am_M I B S) D) (lawQ L xs) := by
  have v1 : vp_in (nI (4 * k) + 1) L := by
    rw [show (1 : Int32) = nI 1 from rfl, nI_add]
    exact vp_in_nI (by omega) (by omega)
  iterate 5 refine go_s rfl rfl rfl trivial ?_
  refine go_s rfl rfl rfl v1 ?_
  refine go_c rfl rfl rfl (c_TI_remove hc _) ?_
  rintro r h3 ⟨rfl, J', N', G', U', p', D', cp', rfl, hc1, hd1⟩
  iterate 5 refine go_s rfl rfl rfl trivial ?_
  refine go_s rfl rfl rfl v1 ?_
  refine go_c rfl rfl rfl (c_remove hm _) ?_
  rintro r h4 ⟨rfl, I', B', rfl, hm1⟩
  refine go_s rfl rfl rfl trivial ?_
  refine go_if (fun _ => ?_) (fun hne => absurd rfl hne)
  exact nx _ ⟨_, _, _, _, _, _, _, _, _, _, _, _, rfl, hc1, hm1, ro_remove hr _, hs.up hd1⟩
set_option maxRecDepth 8000 in
theorem a_stop {k : Nat} {Z : tx_Z} {J : Nat → Int32} {N : Nat → Nat → Int32} {G : Nat → Nat → Int64} {U : Int64} {p : Nat → Nat} {D : List am_C} {cp : Nat → Nat} {I : Nat → Int32} {B : Nat → Nat → Int32} {S : Nat → Int64} {μ : Nat → List Nat} (hL : L ≤ 2048) (hk : 4 * k + 4 ≤ L) (hc : tx_c Z J N G U p D cp) (hm : tx_m Z I B S μ) (hr : roomI Z k) (hs : sizI k D cp) (nx : ∀ h, lawI L xs (k + 1) h → Go m_Law_law 534 [some (.ref 5), some (.ref 6), some (.ref 48), some (.int (nI (4 * k)))] [] h (lawQ L xs)) : Go m_Law_law 227 [some (.ref 5), some (.ref 6), some (.ref 48), some (.int (nI (4 * k)))] [] (hC L xs J N G U p (am_M I B S) D) (lawQ L xs) := by
  have v1 : vp_in (nI (4 * k) + 1) L := by
    rw [show (1 : Int32) = nI 1 from rfl, nI_add]
    exact vp_in_nI (by omega) (by omega)
  have hroom := ro_room hr (by omega)
  iterate 5 refine go_s rfl rfl rfl trivial ?_
  refine go_s rfl rfl rfl v1 ?_
  refine go_c rfl rfl rfl (c_TI_stop hc hroom _) ?_
  rintro r h3 ⟨rfl, J', N', G', U', p', D', cp', rfl, hc1, hd1⟩
  iterate 5 refine go_s rfl rfl rfl trivial ?_
  refine go_s rfl rfl rfl v1 ?_
  refine go_c rfl rfl rfl (c_stop hm hroom _) ?_
  rintro r h4 ⟨rfl, I', B', μ', rfl, hm1⟩
  refine go_s rfl rfl rfl trivial ?_
  refine go_if (fun _ => ?_) (fun hne => absurd rfl hne)
  exact nx _ ⟨_, _, _, _, _, _, _, _, _, _, _, _, rfl, hc1, hm1, ro_stop hr hm.2.1.2.1 _, hs.up hd1⟩
set_option maxRecDepth 8000 in
theorem a_ending {k : Nat} {Z : tx_Z} {J : Nat → Int32} {N : Nat → Nat → Int32} {G : Nat → Nat → Int64} {U : Int64} {p : Nat → Nat} {D : List am_C} {cp : Nat → Nat} {I : Nat → Int32} {B : Nat → Nat → Int32} {S : Nat → Int64} {μ : Nat → List Nat} (hL : L ≤ 2048) (hk : 4 * k + 4 ≤ L) (hc : tx_c Z J N G U p D cp) (hm : tx_m Z I B S μ) (hr : roomI Z k) (hs : sizI k D cp) (nx : ∀ h, lawI L xs (k + 1) h → Go m_Law_law 534 [some (.ref 5), some (.ref 6), some (.ref 48), some (.int (nI (4 * k)))] [] h (lawQ L xs)) : Go m_Law_law 250 [some (.ref 5), some (.ref 6), some (.ref 48), some (.int (nI (4 * k)))] [] (hC L xs J N G U p (am_M I B S) D) (lawQ L xs) := by
  have v1 : vp_in (nI (4 * k) + 1) L := by
    rw [show (1 : Int32) = nI 1 from rfl, nI_add]
    exact vp_in_nI (by omega) (by omega)
  iterate 5 refine go_s rfl rfl rfl trivial ?_
  refine go_s rfl rfl rfl v1 ?_
  refine go_c rfl rfl rfl (c_TI_ending hc _) ?_
  rintro r h3 ⟨rfl, J', N', G', U', p', D', cp', rfl, hc1, hd1⟩
  iterate 5 refine go_s rfl rfl rfl trivial ?_
  refine go_s rfl rfl rfl v1 ?_
  refine go_c rfl rfl rfl (c_ending hm _) ?_
  rintro r h4 ⟨rfl, I', B', μ', rfl, hm1⟩
  refine go_s rfl rfl rfl trivial ?_
  refine go_if (fun _ => ?_) (fun hne => absurd rfl hne)
  exact nx _ ⟨_, _, _, _, _, _, _, _, _, _, _, _, rfl, hc1, hm1, ro_ending hr _, hs.up hd1⟩
set_option maxRecDepth 8000 in
theorem a_stem {k : Nat} {Z : tx_Z} {J : Nat → Int32} {N : Nat → Nat → Int32} {G : Nat → Nat → Int64} {U : Int64} {p : Nat → Nat} {D : List am_C} {cp : Nat → Nat} {I : Nat → Int32} {B : Nat → Nat → Int32} {S : Nat → Int64} {μ : Nat → List Nat} (hL : L ≤ 2048) (hk : 4 * k + 4 ≤ L) (hc : tx_c Z J N G U p D cp) (hm : tx_m Z I B S μ) (hr : roomI Z k) (hs : sizI k D cp) (nx : ∀ h, lawI L xs (k + 1) h → Go m_Law_law 534 [some (.ref 5), some (.ref 6), some (.ref 48), some (.int (nI (4 * k)))] [] h (lawQ L xs)) : Go m_Law_law 273 [some (.ref 5), some (.ref 6), some (.ref 48), some (.int (nI (4 * k)))] [] (hC L xs J N G U p (am_M I B S) D) (lawQ L xs) := by
  have v1 : vp_in (nI (4 * k) + 1) L := by
    rw [show (1 : Int32) = nI 1 from rfl, nI_add]
    exact vp_in_nI (by omega) (by omega)
  iterate 5 refine go_s rfl rfl rfl trivial ?_
  refine go_s rfl rfl rfl v1 ?_
  refine go_c rfl rfl rfl (c_TI_stem hc _) ?_
  rintro r h3 ⟨rfl, J', N', G', U', p', D', cp', rfl, hc1, hd1⟩
  iterate 5 refine go_s rfl rfl rfl trivial ?_
  refine go_s rfl rfl rfl v1 ?_
  refine go_c rfl rfl rfl (c_stem hm _) ?_
  rintro r h4 ⟨rfl, I', B', μ', rfl, hm1⟩
  refine go_s rfl rfl rfl trivial ?_
  refine go_if (fun _ => ?_) (fun hne => absurd rfl hne)
  exact nx _ ⟨_, _, _, _, _, _, _, _, _, _, _, _, rfl, hc1, hm1, ro_stem hr _, hs.up hd1⟩
set_option maxRecDepth 8000 in
theorem a_ask {k : Nat} {Z : tx_Z} {J : Nat → Int32} {N : Nat → Nat → Int32} {G : Nat → Nat → Int64} {U : Int64} {p : Nat → Nat} {D : List am_C} {cp : Nat → Nat} {I : Nat → Int32} {B : Nat → Nat → Int32} {S : Nat → Int64} {μ : Nat → List Nat} (hL : L ≤ 2048) (hk : 4 * k + 4 ≤ L) (hc : tx_c Z J N G U p D cp) (hm : tx_m Z I B S μ) (hr : roomI Z k) (hs : sizI k D cp) (nx : ∀ h, lawI L xs (k + 1) h → Go m_Law_law 534 [some (.ref 5), some (.ref 6), some (.ref 48), some (.int (nI (4 * k)))] [] h (lawQ L xs)) : Go m_Law_law 296 [some (.ref 5), some (.ref 6), some (.ref 48), some (.int (nI (4 * k)))] [] (hC L xs J N G U p (am_M I B S) D) (lawQ L xs) := by
  have v1 : vp_in (nI (4 * k) + 1) L := by
    rw [show (1 : Int32) = nI 1 from rfl, nI_add]
    exact vp_in_nI (by omega) (by omega)
  have v2 : vp_in (nI (4 * k) + 2) L := by
    rw [show (2 : Int32) = nI 2 from rfl, nI_add]
    exact vp_in_nI (by omega) (by omega)
  iterate 5 refine go_s rfl rfl rfl trivial ?_
  refine go_s rfl rfl rfl v1 ?_
  iterate 4 refine go_s rfl rfl rfl trivial ?_
  refine go_s rfl rfl rfl v2 ?_
  refine go_c rfl rfl rfl (c_TI_ask hc _ _) ?_
  rintro r h3 ⟨rfl, J', N', G', U', p', D', cp', rfl, hc1, hd1⟩
  iterate 5 refine go_s rfl rfl rfl trivial ?_
  refine go_s rfl rfl rfl v1 ?_
  iterate 4 refine go_s rfl rfl rfl trivial ?_
  refine go_s rfl rfl rfl v2 ?_
  refine go_c rfl rfl rfl (c_ask hm _ _) ?_
  rintro r h4 ⟨rfl, I', B', S', μ', rfl, hm1⟩
  refine go_s rfl rfl rfl trivial ?_
  refine go_if (fun _ => ?_) (fun hne => absurd rfl hne)
  exact nx _ ⟨_, _, _, _, _, _, _, _, _, _, _, _, rfl, hc1, hm1, ro_ask hr _ _, hs.up hd1⟩
set_option maxRecDepth 8000 in
theorem a_like {k : Nat} {Z : tx_Z} {J : Nat → Int32} {N : Nat → Nat → Int32} {G : Nat → Nat → Int64} {U : Int64} {p : Nat → Nat} {D : List am_C} {cp : Nat → Nat} {I : Nat → Int32} {B : Nat → Nat → Int32} {S : Nat → Int64} {μ : Nat → List Nat} (hL : L ≤ 2048) (hk : 4 * k + 4 ≤ L) (hc : tx_c Z J N G U p D cp) (hm : tx_m Z I B S μ) (hr : roomI Z k) (hs : sizI k D cp) (nx : ∀ h, lawI L xs (k + 1) h → Go m_Law_law 534 [some (.ref 5), some (.ref 6), some (.ref 48), some (.int (nI (4 * k)))] [] h (lawQ L xs)) : Go m_Law_law 376 [some (.ref 5), some (.ref 6), some (.ref 48), some (.int (nI (4 * k)))] [] (hC L xs J N G U p (am_M I B S) D) (lawQ L xs) := by
  have v1 : vp_in (nI (4 * k) + 1) L := by
    rw [show (1 : Int32) = nI 1 from rfl, nI_add]
    exact vp_in_nI (by omega) (by omega)
  have v2 : vp_in (nI (4 * k) + 2) L := by
    rw [show (2 : Int32) = nI 2 from rfl, nI_add]
    exact vp_in_nI (by omega) (by omega)
  iterate 5 refine go_s rfl rfl rfl trivial ?_
  refine go_s rfl rfl rfl v1 ?_
  iterate 4 refine go_s rfl rfl rfl trivial ?_
  refine go_s rfl rfl rfl v2 ?_
  refine go_c rfl rfl rfl (c_TI_like hc _ _) ?_
  rintro r h3 ⟨rfl, J', N', G', U', p', D', cp', rfl, hc1, hd1⟩
  iterate 5 refine go_s rfl rfl rfl trivial ?_
  refine go_s rfl rfl rfl v1 ?_
  iterate 4 refine go_s rfl rfl rfl trivial ?_
  refine go_s rfl rfl rfl v2 ?_
  refine go_c rfl rfl rfl (c_like hm _ _) ?_
  rintro r h4 ⟨rfl, I', B', μ', rfl, hm1⟩
  refine go_s rfl rfl rfl trivial ?_
  refine go_if (fun _ => ?_) (fun hne => absurd rfl hne)
  exact nx _ ⟨_, _, _, _, _, _, _, _, _, _, _, _, rfl, hc1, hm1, ro_like hr _ _, hs.up hd1⟩
set_option maxRecDepth 8000 in
theorem a_word {k : Nat} {Z : tx_Z} {J : Nat → Int32} {N : Nat → Nat → Int32} {G : Nat → Nat → Int64} {U : Int64} {p : Nat → Nat} {D : List am_C} {cp : Nat → Nat} {I : Nat → Int32} {B : Nat → Nat → Int32} {S : Nat → Int64} {μ : Nat → List Nat} (hL : L ≤ 2048) (hk : 4 * k + 4 ≤ L) (hc : tx_c Z J N G U p D cp) (hm : tx_m Z I B S μ) (hr : roomI Z k) (hs : sizI k D cp) (nx : ∀ h, lawI L xs (k + 1) h → Go m_Law_law 534 [some (.ref 5), some (.ref 6), some (.ref 48), some (.int (nI (4 * k)))] [] h (lawQ L xs)) : Go m_Law_law 409 [some (.ref 5), some (.ref 6), some (.ref 48), some (.int (nI (4 * k)))] [] (hC L xs J N G U p (am_M I B S) D) (lawQ L xs) := by
  have v1 : vp_in (nI (4 * k) + 1) L := by
    rw [show (1 : Int32) = nI 1 from rfl, nI_add]
    exact vp_in_nI (by omega) (by omega)
  iterate 5 refine go_s rfl rfl rfl trivial ?_
  refine go_s rfl rfl rfl v1 ?_
  refine go_c rfl rfl rfl (c_TI_word hc _) ?_
  rintro r h3 ⟨rfl, J', N', G', U', p', D', cp', rfl, hc1, hd1⟩
  iterate 5 refine go_s rfl rfl rfl trivial ?_
  refine go_s rfl rfl rfl v1 ?_
  refine go_c rfl rfl rfl (c_word hm _) ?_
  rintro r h4 ⟨rfl, I', B', rfl, hm1⟩
  refine go_s rfl rfl rfl trivial ?_
  refine go_if (fun _ => ?_) (fun hne => absurd rfl hne)
  exact nx _ ⟨_, _, _, _, _, _, _, _, _, _, _, _, rfl, hc1, hm1, ro_word hr _, hs.up hd1⟩
set_option maxRecDepth 8000 in
theorem a_answer {k : Nat} {Z : tx_Z} {J : Nat → Int32} {N : Nat → Nat → Int32} {G : Nat → Nat → Int64} {U : Int64} {p : Nat → Nat} {D : List am_C} {cp : Nat → Nat} {I : Nat → Int32} {B : Nat → Nat → Int32} {S : Nat → Int64} {μ : Nat → List Nat} (hL : L ≤ 2048) (hk : 4 * k + 4 ≤ L) (hc : tx_c Z J N G U p D cp) (hm : tx_m Z I B S μ) (hr : roomI Z k) (hs : sizI k D cp) (nx : ∀ h, lawI L xs (k + 1) h → Go m_Law_law 534 [some (.ref 5), some (.ref 6), some (.ref 48), some (.int (nI (4 * k)))] [] h (lawQ L xs)) : Go m_Law_law 329 [some (.ref 5), some (.ref 6), some (.ref 48), some (.int (nI (4 * k)))] [] (hC L xs J N G U p (am_M I B S) D) (lawQ L xs) := by
  have v1 : vp_in (nI (4 * k) + 1) L := by
    rw [show (1 : Int32) = nI 1 from rfl, nI_add]
    exact vp_in_nI (by omega) (by omega)
  iterate 5 refine go_s rfl rfl rfl trivial ?_
  refine go_s rfl rfl rfl v1 ?_
  refine go_c rfl rfl rfl (c_TI_answer hc _) ?_
  rintro r h3 ⟨rfl, rfl⟩
  iterate 5 refine go_s rfl rfl rfl trivial ?_
  refine go_s rfl rfl rfl v1 ?_
  refine go_c rfl rfl rfl (c_answer hm.2.2.2.2.1 _) ?_
  rintro r h4 ⟨rfl, rfl⟩
  refine go_s rfl rfl rfl trivial ?_
  refine go_if (fun _ => ?_) (fun hne => absurd rfl hne)
  exact nx _ ⟨_, _, _, _, _, _, _, _, _, _, _, _, rfl, hc, hm, hr.up (Nat.le_refl _) rfl, hs.up (dB.rf _ _)⟩
set_option maxRecDepth 8000 in
theorem a_score {k : Nat} {Z : tx_Z} {J : Nat → Int32} {N : Nat → Nat → Int32} {G : Nat → Nat → Int64} {U : Int64} {p : Nat → Nat} {D : List am_C} {cp : Nat → Nat} {I : Nat → Int32} {B : Nat → Nat → Int32} {S : Nat → Int64} {μ : Nat → List Nat} (hL : L ≤ 2048) (hk : 4 * k + 4 ≤ L) (hc : tx_c Z J N G U p D cp) (hm : tx_m Z I B S μ) (hr : roomI Z k) (hs : sizI k D cp) (nx : ∀ h, lawI L xs (k + 1) h → Go m_Law_law 534 [some (.ref 5), some (.ref 6), some (.ref 48), some (.int (nI (4 * k)))] [] h (lawQ L xs)) : Go m_Law_law 352 [some (.ref 5), some (.ref 6), some (.ref 48), some (.int (nI (4 * k)))] [] (hC L xs J N G U p (am_M I B S) D) (lawQ L xs) := by
  have v1 : vp_in (nI (4 * k) + 1) L := by
    rw [show (1 : Int32) = nI 1 from rfl, nI_add]
    exact vp_in_nI (by omega) (by omega)
  iterate 5 refine go_s rfl rfl rfl trivial ?_
  refine go_s rfl rfl rfl v1 ?_
  refine go_c rfl rfl rfl (c_TI_score hc _) ?_
  rintro r h3 ⟨rfl, rfl⟩
  iterate 5 refine go_s rfl rfl rfl trivial ?_
  refine go_s rfl rfl rfl v1 ?_
  refine go_c rfl rfl rfl (c_score hm.2.2.2.2.1 _) ?_
  rintro r h4 ⟨rfl, rfl⟩
  iterate 2 refine go_s rfl rfl rfl trivial ?_
  refine go_if (fun _ => ?_) (fun hne => absurd ((lg_cmp_eq _ _).mpr rfl) hne)
  exact nx _ ⟨_, _, _, _, _, _, _, _, _, _, _, _, rfl, hc, hm, hr.up (Nat.le_refl _) rfl, hs.up (dB.rf _ _)⟩
set_option maxRecDepth 8000 in
theorem a_at {k : Nat} {Z : tx_Z} {J : Nat → Int32} {N : Nat → Nat → Int32} {G : Nat → Nat → Int64} {U : Int64} {p : Nat → Nat} {D : List am_C} {cp : Nat → Nat} {I : Nat → Int32} {B : Nat → Nat → Int32} {S : Nat → Int64} {μ : Nat → List Nat} (hL : L ≤ 2048) (hk : 4 * k + 4 ≤ L) (hc : tx_c Z J N G U p D cp) (hm : tx_m Z I B S μ) (hr : roomI Z k) (hs : sizI k D cp) (nx : ∀ h, lawI L xs (k + 1) h → Go m_Law_law 534 [some (.ref 5), some (.ref 6), some (.ref 48), some (.int (nI (4 * k)))] [] h (lawQ L xs)) : Go m_Law_law 432 [some (.ref 5), some (.ref 6), some (.ref 48), some (.int (nI (4 * k)))] [] (hC L xs J N G U p (am_M I B S) D) (lawQ L xs) := by
  have v1 : vp_in (nI (4 * k) + 1) L := by
    rw [show (1 : Int32) = nI 1 from rfl, nI_add]
    exact vp_in_nI (by omega) (by omega)
  iterate 5 refine go_s rfl rfl rfl trivial ?_
  refine go_s rfl rfl rfl v1 ?_
  refine go_c rfl rfl rfl (c_TI_at hc _) ?_
  rintro r h3 ⟨rfl, rfl⟩
  iterate 5 refine go_s rfl rfl rfl trivial ?_
  refine go_s rfl rfl rfl v1 ?_
  refine go_c rfl rfl rfl (c_at hm.2.2.2.2.2.2 _) ?_
  rintro r h4 ⟨rfl, rfl⟩
  refine go_s rfl rfl rfl trivial ?_
  refine go_if (fun _ => ?_) (fun hne => absurd rfl hne)
  exact nx _ ⟨_, _, _, _, _, _, _, _, _, _, _, _, rfl, hc, hm, hr.up (Nat.le_refl _) rfl, hs.up (dB.rf _ _)⟩
set_option maxRecDepth 8000 in
theorem a_place {k : Nat} {Z : tx_Z} {J : Nat → Int32} {N : Nat → Nat → Int32} {G : Nat → Nat → Int64} {U : Int64} {p : Nat → Nat} {D : List am_C} {cp : Nat → Nat} {I : Nat → Int32} {B : Nat → Nat → Int32} {S : Nat → Int64} {μ : Nat → List Nat} (hL : L ≤ 2048) (hk : 4 * k + 4 ≤ L) (hc : tx_c Z J N G U p D cp) (hm : tx_m Z I B S μ) (hr : roomI Z k) (hs : sizI k D cp) (nx : ∀ h, lawI L xs (k + 1) h → Go m_Law_law 534 [some (.ref 5), some (.ref 6), some (.ref 48), some (.int (nI (4 * k)))] [] h (lawQ L xs)) : Go m_Law_law 455 [some (.ref 5), some (.ref 6), some (.ref 48), some (.int (nI (4 * k)))] [] (hC L xs J N G U p (am_M I B S) D) (lawQ L xs) := by
  have v1 : vp_in (nI (4 * k) + 1) L := by
    rw [show (1 : Int32) = nI 1 from rfl, nI_add]
    exact vp_in_nI (by omega) (by omega)
  have v2 : vp_in (nI (4 * k) + 2) L := by
    rw [show (2 : Int32) = nI 2 from rfl, nI_add]
    exact vp_in_nI (by omega) (by omega)
  have v3 : vp_in (nI (4 * k) + 3) L := by
    rw [show (3 : Int32) = nI 3 from rfl, nI_add]
    exact vp_in_nI (by omega) (by omega)
  iterate 5 refine go_s rfl rfl rfl trivial ?_
  refine go_s rfl rfl rfl v1 ?_
  iterate 4 refine go_s rfl rfl rfl trivial ?_
  refine go_s rfl rfl rfl v2 ?_
  iterate 4 refine go_s rfl rfl rfl trivial ?_
  refine go_s rfl rfl rfl v3 ?_
  refine go_c rfl rfl rfl (c_TI_place hc _ _ _) ?_
  rintro r h3 ⟨rfl, rfl⟩
  iterate 5 refine go_s rfl rfl rfl trivial ?_
  refine go_s rfl rfl rfl v1 ?_
  iterate 4 refine go_s rfl rfl rfl trivial ?_
  refine go_s rfl rfl rfl v2 ?_
  iterate 4 refine go_s rfl rfl rfl trivial ?_
  refine go_s rfl rfl rfl v3 ?_
  refine go_c rfl rfl rfl (c_place hm.2.2.2.1 _ _ _) ?_
  rintro r h4 ⟨rfl, rfl⟩
  refine go_s rfl rfl rfl trivial ?_
  refine go_if (fun _ => ?_) (fun hne => absurd rfl hne)
  exact nx _ ⟨_, _, _, _, _, _, _, _, _, _, _, _, rfl, hc, hm, hr.up (Nat.le_refl _) rfl, hs.up (dB.rf _ _)⟩
set_option maxRecDepth 8000 in
theorem a_texts {k : Nat} {Z : tx_Z} {J : Nat → Int32} {N : Nat → Nat → Int32} {G : Nat → Nat → Int64} {U : Int64} {p : Nat → Nat} {D : List am_C} {cp : Nat → Nat} {I : Nat → Int32} {B : Nat → Nat → Int32} {S : Nat → Int64} {μ : Nat → List Nat} (hL : L ≤ 2048) (hk : 4 * k + 4 ≤ L) (hc : tx_c Z J N G U p D cp) (hm : tx_m Z I B S μ) (hr : roomI Z k) (hs : sizI k D cp) (nx : ∀ h, lawI L xs (k + 1) h → Go m_Law_law 534 [some (.ref 5), some (.ref 6), some (.ref 48), some (.int (nI (4 * k)))] [] h (lawQ L xs)) : Go m_Law_law 498 [some (.ref 5), some (.ref 6), some (.ref 48), some (.int (nI (4 * k)))] [] (hC L xs J N G U p (am_M I B S) D) (lawQ L xs) := by
  refine go_s rfl rfl rfl trivial ?_
  refine go_c rfl rfl rfl (c_TI_texts hc) ?_
  rintro r h3 ⟨rfl, rfl⟩
  refine go_s rfl rfl rfl trivial ?_
  refine go_c rfl rfl rfl (c_texts hm.2.2.2.1) ?_
  rintro r h4 ⟨rfl, rfl⟩
  refine go_s rfl rfl rfl trivial ?_
  refine go_if (fun _ => ?_) (fun hne => absurd rfl hne)
  exact nx _ ⟨_, _, _, _, _, _, _, _, _, _, _, _, rfl, hc, hm, hr.up (Nat.le_refl _) rfl, hs.up (dB.rf _ _)⟩
set_option maxRecDepth 8000 in
theorem a_stems {k : Nat} {Z : tx_Z} {J : Nat → Int32} {N : Nat → Nat → Int32} {G : Nat → Nat → Int64} {U : Int64} {p : Nat → Nat} {D : List am_C} {cp : Nat → Nat} {I : Nat → Int32} {B : Nat → Nat → Int32} {S : Nat → Int64} {μ : Nat → List Nat} (hL : L ≤ 2048) (hk : 4 * k + 4 ≤ L) (hc : tx_c Z J N G U p D cp) (hm : tx_m Z I B S μ) (hr : roomI Z k) (hs : sizI k D cp) (nx : ∀ h, lawI L xs (k + 1) h → Go m_Law_law 534 [some (.ref 5), some (.ref 6), some (.ref 48), some (.int (nI (4 * k)))] [] h (lawQ L xs)) : Go m_Law_law 511 [some (.ref 5), some (.ref 6), some (.ref 48), some (.int (nI (4 * k)))] [] (hC L xs J N G U p (am_M I B S) D) (lawQ L xs) := by
  have v1 : vp_in (nI (4 * k) + 1) L := by
    rw [show (1 : Int32) = nI 1 from rfl, nI_add]
    exact vp_in_nI (by omega) (by omega)
  iterate 5 refine go_s rfl rfl rfl trivial ?_
  refine go_s rfl rfl rfl v1 ?_
  refine go_c rfl rfl rfl (c_TI_stems hc _) ?_
  rintro r h3 ⟨rfl, rfl⟩
  iterate 5 refine go_s rfl rfl rfl trivial ?_
  refine go_s rfl rfl rfl v1 ?_
  refine go_c rfl rfl rfl (c_stems_Z hm _) ?_
  rintro r h4 ⟨rfl, B', μ', rfl, hm1⟩
  refine go_s rfl rfl rfl trivial ?_
  refine go_if (fun _ => ?_) (fun hne => absurd rfl hne)
  exact nx _ ⟨_, _, _, _, _, _, _, _, _, _, _, _, rfl, hc, hm1, hr.up (Nat.le_refl _) rfl, hs.up (dB.rf _ _)⟩
theorem law_lt {k : Nat} (hL : L ≤ 2048) (hk : k ≤ 512) : (nI L - 4 < nI (4 * k)) ↔ L < 4 * k + 4 := by
  rw [Int32.lt_iff_toInt_lt, show (4 : Int32) = nI 4 from rfl, pk_sub_toInt (by omega) (by omega), nI_toInt (n := 4 * k) (by omega)]
  omega
set_option maxRecDepth 8000 in
theorem tx_loop (hL : L ≤ 2048) : ∀ (d k : Nat) (h : List am_C), L ≤ 4 * k + 4 * d → 4 * k ≤ 2048 → lawI L xs k h → Go m_Law_law 18 [some (.ref 5), some (.ref 6), some (.ref 48), some (.int (nI (4 * k)))] [] h (lawQ L xs) := by
  intro d
  have fin : ∀ (k : Nat) (h : List am_C), 4 * k ≤ 2048 → lawI L xs k h → Go m_Law_law 540 [some (.ref 5), some (.ref 6), some (.ref 48), some (.int (nI (4 * k)))] [] h (lawQ L xs) := by
    intro k h hk hI
    refine go_s rfl rfl rfl trivial ?_
    exact go_r rfl rfl rfl (by decide) ⟨rfl, k, by omega, hI⟩
  induction d with
  | zero =>
    intro k h hd hk hI
    obtain ⟨Z, J, N, G, U, p, D, cp, I, B, S, μ, rfl, hc, hm, hr, hs⟩ := id hI
    iterate 6 refine go_s rfl rfl rfl trivial ?_
    refine go_if (fun _ => fin k _ hk hI) (fun hne => absurd ((law_lt hL (by omega)).mpr (by omega)) hne)
  | succ d ih =>
    intro k h hd hk hI
    obtain ⟨Z, J, N, G, U, p, D, cp, I, B, S, μ, rfl, hc, hm, hr, hs⟩ := id hI
    iterate 6 refine go_s rfl rfl rfl trivial ?_
    refine go_if (fun _ => fin k _ hk hI) (fun hne => ?_)
    have hkL : 4 * k + 4 ≤ L := Nat.not_lt.mp fun q => hne ((law_lt hL (by omega)).mpr q)
    have nx : ∀ h, lawI L xs (k + 1) h → Go m_Law_law 534 [some (.ref 5), some (.ref 6), some (.ref 48), some (.int (nI (4 * k)))] [] h (lawQ L xs) := by
      intro h hI
      iterate 2 refine go_s rfl rfl rfl trivial ?_
      have e4 : nI (4 * k) + 4 = nI (4 * (k + 1)) := nI_add (4 * k) 4
      rw [e4]
      exact ih (k + 1) h (by omega) (by omega) hI
    have hN : lawI L xs (k + 1) (am_hp (am_TC L xs J N G U p) (am_M I B S) D) := ⟨Z, J, N, G, U, p, D, cp, I, B, S, μ, rfl, hc, hm, hr.up (Nat.le_refl _) rfl, hs.up (dB.rf _ _)⟩
    have v0 : vp_in (nI (4 * k)) L := vp_in_nI (by omega) (by omega)
    iterate 2 refine go_s rfl rfl rfl trivial ?_
    refine go_s rfl rfl rfl v0 ?_
    iterate 2 refine go_s rfl rfl rfl trivial ?_
    generalize xs (nI (4 * k)).toNatClampNeg &&& 15 = y
    refine go_s rfl rfl rfl trivial ?_
    by_cases hy : y.toInt < 0 ∨ 14 < y.toInt
    · exact go_pc (if_pos hy) (nx _ hN)
    · rcases (by omega : y.toInt = ((0 : Nat) : Int) ∨ y.toInt = ((1 : Nat) : Int) ∨ y.toInt = ((2 : Nat) : Int) ∨ y.toInt = ((3 : Nat) : Int) ∨ y.toInt = ((4 : Nat) : Int) ∨ y.toInt = ((5 : Nat) : Int) ∨ y.toInt = ((6 : Nat) : Int) ∨ y.toInt = ((7 : Nat) : Int) ∨ y.toInt = ((8 : Nat) : Int) ∨ y.toInt = ((9 : Nat) : Int) ∨ y.toInt = ((10 : Nat) : Int) ∨ y.toInt = ((11 : Nat) : Int) ∨ y.toInt = ((12 : Nat) : Int) ∨ y.toInt = ((13 : Nat) : Int) ∨ y.toInt = ((14 : Nat) : Int)) with hq | hq | hq | hq | hq | hq | hq | hq | hq | hq | hq | hq | hq | hq | hq
      · obtain rfl := i_toN hq (by decide)
        exact go_pc (a := 108) (by decide) (a_type hL hkL hc hm hr hs nx)
      · obtain rfl := i_toN hq (by decide)
        exact go_pc (a := 171) (by decide) (a_text hL hkL hc hm hr hs nx)
      · obtain rfl := i_toN hq (by decide)
        exact go_pc (a := 204) (by decide) (a_remove hL hkL hc hm hr hs nx)
      · obtain rfl := i_toN hq (by decide)
        exact go_pc (a := 227) (by decide) (a_stop hL hkL hc hm hr hs nx)
      · obtain rfl := i_toN hq (by decide)
        exact go_pc (a := 250) (by decide) (a_ending hL hkL hc hm hr hs nx)
      · obtain rfl := i_toN hq (by decide)
        exact go_pc (a := 273) (by decide) (a_stem hL hkL hc hm hr hs nx)
      · obtain rfl := i_toN hq (by decide)
        exact go_pc (a := 296) (by decide) (a_ask hL hkL hc hm hr hs nx)
      · obtain rfl := i_toN hq (by decide)
        exact go_pc (a := 329) (by decide) (a_answer hL hkL hc hm hr hs nx)
      · obtain rfl := i_toN hq (by decide)
        exact go_pc (a := 352) (by decide) (a_score hL hkL hc hm hr hs nx)
      · obtain rfl := i_toN hq (by decide)
        exact go_pc (a := 376) (by decide) (a_like hL hkL hc hm hr hs nx)
      · obtain rfl := i_toN hq (by decide)
        exact go_pc (a := 409) (by decide) (a_word hL hkL hc hm hr hs nx)
      · obtain rfl := i_toN hq (by decide)
        exact go_pc (a := 432) (by decide) (a_at hL hkL hc hm hr hs nx)
      · obtain rfl := i_toN hq (by decide)
        exact go_pc (a := 455) (by decide) (a_place hL hkL hc hm hr hs nx)
      · obtain rfl := i_toN hq (by decide)
        exact go_pc (a := 498) (by decide) (a_texts hL hkL hc hm hr hs nx)
      · obtain rfl := i_toN hq (by decide)
        exact go_pc (a := 511) (by decide) (a_stems hL hkL hc hm hr hs nx)
end LLOOP
