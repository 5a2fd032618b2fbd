/-! ===== the words of the tape, once the whole tape is known ===== -/
def wcl (z : wS) (i : Nat) : Prop := i < z.1 ∧ (z.2.1 = true → i + 1 < z.1)
theorem wcl_step {z : wS} {i : Nat} (k b : Nat) (h : wcl z i) : wcl (stS z k b) i ∧ (stS z k b).2.2.1 i = z.2.2.1 i ∧ (stS z k b).2.2.2.1 i = z.2.2.2.1 i ∧ (stS z k b).2.2.2.2 i = z.2.2.2.2 i := by
  obtain ⟨h1, h2⟩ := h
  rw [stS]
  split
  · exact ⟨⟨h1, fun q => by cases q⟩, rfl, rfl, rfl⟩
  · split
    · rename_i q
      have := h2 q
      exact ⟨⟨h1, fun _ => this⟩, va_up_ne _ _ (by omega), rfl, va_up_ne _ _ (by omega)⟩
    · have e : (newS z k).1 - 1 = z.1 := Nat.add_sub_cancel z.1 1
      refine ⟨⟨Nat.lt_succ_of_lt h1, fun _ => by show i + 1 < z.1 + 1; omega⟩, ?_, ?_, ?_⟩
      · show va_up (va_up z.2.2.1 z.1 []) ((newS z k).1 - 1) _ i = z.2.2.1 i
        rw [e, va_up_ne _ _ (by omega), va_up_ne _ _ (by omega)]
      · exact va_up_ne _ _ (by omega)
      · show va_up (va_up z.2.2.2.2 z.1 0) ((newS z k).1 - 1) _ i = z.2.2.2.2 i
        rw [e, va_up_ne _ _ (by omega), va_up_ne _ _ (by omega)]
theorem wcl_run {tb : Nat → Nat} {k i : Nat} (h : wcl (wst tb k) i) : ∀ d, wcl (wst tb (k + d)) i ∧ (wst tb (k + d)).2.2.1 i = (wst tb k).2.2.1 i ∧ (wst tb (k + d)).2.2.2.1 i = (wst tb k).2.2.2.1 i ∧ (wst tb (k + d)).2.2.2.2 i = (wst tb k).2.2.2.2 i
  | 0 => ⟨h, rfl, rfl, rfl⟩
  | d + 1 => by
    obtain ⟨a1, a2, a3, a4⟩ := wcl_run h d
    obtain ⟨b1, b2, b3, b4⟩ := wcl_step (k + d) (ltr (tb (k + d))) a1
    exact ⟨b1, b2.trans a2, b3.trans a3, b4.trans a4⟩
theorem addw_take (u : List Nat) (b : Nat) : addw (u.take 12) b = (u ++ [b]).take 12 := by
  rw [addw, List.length_take]
  by_cases q : min 12 u.length = 12
  · rw [if_pos q, List.take_append_of_le_length (by omega)]
  · rw [if_neg q, List.take_of_length_le (by omega), List.take_of_length_le (by rw [List.length_append, List.length_singleton]; omega)]
theorem wst_open (P : tx_P) (k : Nat) (hin : (wst P.1 k).2.1 = false) : ∀ m, m < wl P k → (wst P.1 (k + m + 1)).1 = (wst P.1 k).1 + 1 ∧ (wst P.1 (k + m + 1)).2.1 = true ∧ (wst P.1 (k + m + 1)).2.2.1 (wst P.1 k).1 = (wrd P k (m + 1)).take 12 ∧ (wst P.1 (k + m + 1)).2.2.2.1 (wst P.1 k).1 = k ∧ (wst P.1 (k + m + 1)).2.2.2.2 (wst P.1 k).1 = m + 1
  | 0, hm => by
    have hz := wl_in P 0 k hm
    have hp := (lq_sy hz).2.2.2.2.2
    have e : lq P k = ltr (P.1 k) := if_pos hp
    have ez : wst P.1 (k + 0 + 1) = addS (newS (wst P.1 k) k) (ltr (P.1 k)) := by
      show stS (wst P.1 k) k (ltr (P.1 k)) = _
      rw [stS, if_neg (by rw [← e]; exact hz), if_neg (by rw [hin]; decide)]
    have e1 : (newS (wst P.1 k) k).1 - 1 = (wst P.1 k).1 := Nat.add_sub_cancel _ 1
    rw [ez]
    refine ⟨rfl, rfl, ?_, va_up_self _ _ _, ?_⟩
    · show va_up (va_up (wst P.1 k).2.2.1 (wst P.1 k).1 []) ((newS (wst P.1 k) k).1 - 1) (addw (va_up (wst P.1 k).2.2.1 (wst P.1 k).1 [] ((newS (wst P.1 k) k).1 - 1)) (ltr (P.1 k))) (wst P.1 k).1 = _
      rw [e1, va_up_self, va_up_self, ← e]
      rfl
    · show va_up (va_up (wst P.1 k).2.2.2.2 (wst P.1 k).1 0) ((newS (wst P.1 k) k).1 - 1) (va_up (wst P.1 k).2.2.2.2 (wst P.1 k).1 0 ((newS (wst P.1 k) k).1 - 1) + 1) (wst P.1 k).1 = _
      rw [e1, va_up_self, va_up_self]
  | m + 1, hm => by
    obtain ⟨i1, i2, i3, i4, i5⟩ := wst_open P k hin m (by omega)
    have hz := wl_in P (m + 1) k hm
    have hp := (lq_sy hz).2.2.2.2.2
    have e : lq P (k + (m + 1)) = ltr (P.1 (k + (m + 1))) := if_pos hp
    have ez : wst P.1 (k + (m + 1) + 1) = addS (wst P.1 (k + m + 1)) (ltr (P.1 (k + (m + 1)))) := by
      show stS (wst P.1 (k + m + 1)) (k + (m + 1)) (ltr (P.1 (k + (m + 1)))) = _
      rw [stS, if_neg (by rw [← e]; exact hz), if_pos i2]
    have e1 : (wst P.1 (k + m + 1)).1 - 1 = (wst P.1 k).1 := by rw [i1]; exact Nat.add_sub_cancel _ 1
    rw [ez]
    refine ⟨i1, rfl, ?_, i4, ?_⟩
    · show va_up (wst P.1 (k + m + 1)).2.2.1 ((wst P.1 (k + m + 1)).1 - 1) (addw ((wst P.1 (k + m + 1)).2.2.1 ((wst P.1 (k + m + 1)).1 - 1)) (ltr (P.1 (k + (m + 1))))) (wst P.1 k).1 = _
      rw [e1, va_up_self, i3, addw_take, wrd_succ P k (m + 1), e]
    · show va_up (wst P.1 (k + m + 1)).2.2.2.2 ((wst P.1 (k + m + 1)).1 - 1) ((wst P.1 (k + m + 1)).2.2.2.2 ((wst P.1 (k + m + 1)).1 - 1) + 1) (wst P.1 k).1 = _
      rw [e1, va_up_self, i5]
/-- the word that begins at a place -/
theorem wst_fin (P : tx_P) {k : Nat} (hin : (wst P.1 k).2.1 = false) (hz : lq P k ≠ 0) : (wst P.1 P.2).2.2.1 (wst P.1 k).1 = (wrd P k (wl P k)).take 12 ∧ (wst P.1 P.2).2.2.2.1 (wst P.1 k).1 = k ∧ (wst P.1 P.2).2.2.2.2 (wst P.1 k).1 = wl P k := by
  have hp := (lq_sy hz).2.2.2.2.2
  have hw0 : wl P k = wl P (k + 1) + 1 := wl_yes hz
  have hle := wl_le (P := P) (p := k) (by omega)
  obtain ⟨i1, i2, i3, i4, i5⟩ := wst_open P k hin (wl P k - 1) (by omega)
  rw [show k + (wl P k - 1) + 1 = k + wl P k by omega] at i1 i2 i3 i4 i5
  rw [show wl P k - 1 + 1 = wl P k by omega] at i3 i5
  by_cases e : k + wl P k = P.2
  · rw [e] at i3 i4 i5
    exact ⟨i3, i4, i5⟩
  · have hend := wl_end P k
    have e2 : ltr (P.1 (k + wl P k)) = 0 := by
      rw [lq, if_pos (by omega)] at hend
      exact hend
    have ez : wst P.1 (k + wl P k + 1) = ((wst P.1 (k + wl P k)).1, false, (wst P.1 (k + wl P k)).2.2) := by
      show stS (wst P.1 (k + wl P k)) (k + wl P k) (ltr (P.1 (k + wl P k))) = _
      rw [stS, if_pos e2]
    have hc : wcl (wst P.1 (k + wl P k + 1)) (wst P.1 k).1 := by
      rw [ez]
      exact ⟨by show _ < (wst P.1 (k + wl P k)).1; omega, fun q => by cases q⟩
    obtain ⟨-, r2, r3, r4⟩ := wcl_run hc (P.2 - (k + wl P k + 1))
    rw [show k + wl P k + 1 + (P.2 - (k + wl P k + 1)) = P.2 by omega] at r2 r3 r4
    rw [r2, r3, r4, ez]
    exact ⟨i3, i4, i5⟩
/-- the words are words -/
theorem wst_wok (tb : Nat → Nat) : ∀ k i, i < (wst tb k).1 → wok ((wst tb k).2.2.1 i)
  | 0, i, h => absurd h (Nat.not_lt_zero i)
  | k + 1, i, h => by
    have ih := wst_wok tb k
    have ha : ∀ (w : List Nat) (b : Nat), (w = [] ∨ wok w) → isLd b → wok (addw w b) := by
      intro w b hw hb
      rw [addw]
      split
      · rename_i h12
        rcases hw with rfl | hw
        · cases h12
        · exact hw
      · rename_i h12
        rcases hw with rfl | hw
        · exact ⟨by simp, by simp, fun x hx => by rw [List.nil_append, List.mem_singleton] at hx; rw [hx]; exact hb⟩
        · refine ⟨by rw [List.length_append, List.length_singleton]; omega, by rw [List.length_append, List.length_singleton]; have := hw.2.1; omega, fun x hx => ?_⟩
          rcases List.mem_append.mp hx with g | g
          · exact hw.2.2 x g
          · rw [List.mem_singleton.mp g]; exact hb
    have e0 : wst tb (k + 1) = stS (wst tb k) k (ltr (tb k)) := rfl
    rw [e0, stS] at h ⊢
    split at h
    · rename_i hb
      rw [if_pos hb]
      exact ih i h
    · rename_i hb
      rw [if_neg hb]
      split at h
      · rename_i hin
        rw [if_pos hin]
        have h' : i < (wst tb k).1 := h
        show wok (va_up (wst tb k).2.2.1 ((wst tb k).1 - 1) (addw ((wst tb k).2.2.1 ((wst tb k).1 - 1)) (ltr (tb k))) i)
        by_cases e : i = (wst tb k).1 - 1
        · rw [e, va_up_self]
          exact ha _ _ (Or.inr (ih _ (by omega))) (ltr_ld hb)
        · rw [va_up_ne _ _ e]
          exact ih i h'
      · rename_i hin
        rw [if_neg hin]
        have h' : i < (wst tb k).1 + 1 := h
        have e1 : (newS (wst tb k) k).1 - 1 = (wst tb k).1 := Nat.add_sub_cancel _ 1
        show wok (va_up (va_up (wst tb k).2.2.1 (wst tb k).1 []) ((newS (wst tb k) k).1 - 1) (addw (va_up (wst tb k).2.2.1 (wst tb k).1 [] ((newS (wst tb k) k).1 - 1)) (ltr (tb k))) i)
        rw [e1, va_up_self]
        by_cases e : i = (wst tb k).1
        · rw [e, va_up_self]
          exact ha _ _ (Or.inl rfl) (ltr_ld hb)
        · rw [va_up_ne _ _ e, va_up_ne _ _ e]
          exact ih i (by omega)
theorem dgb_z (b : Nat) : dgb b = 0 ↔ ltr b = 0 := by
  rw [dgb]
  split
  · rename_i h; exact ⟨fun _ => h, fun _ => rfl⟩
  · rename_i h
    have := (dig_pos (ltr_ld h)).1
    omega
theorem dgb_lt (b : Nat) : dgb b < 37 := by
  rw [dgb]
  split
  · decide
  · rename_i h; exact (dig_pos (ltr_ld h)).2.1
theorem dgt_wrd {P : tx_P} {s i : Nat} (hi : i < 12) : dgt ((wrd P s (wl P s)).take 12) i = if i < wl P s then dgb (P.1 (s + i)) else 0 := by
  rw [dgt_opt, List.getElem?_take_of_lt hi]
  by_cases q : i < wl P s
  · have hz := wl_in P i s q
    have hp := (lq_sy hz).2.2.2.2.2
    have e : lq P (s + i) = ltr (P.1 (s + i)) := if_pos hp
    rw [if_pos q, wrd, List.getElem?_map, List.getElem?_range q]
    show dig (lq P (s + i)) = _
    rw [e] at hz
    rw [dgb, if_neg hz, e]
  · rw [if_neg q, List.getElem?_eq_none (by rw [wrd_len]; omega)]
    rfl
/-! ===== the class's tape ===== -/
abbrev hC (L : Nat) (xs : Nat → Int32) (J : Nat → Int32) (N : Nat → Nat → Int32) (G : Nat → Nat → Int64) (U : Int64) (p : Nat → Nat) (M : Nat → am_C) (D : List am_C) : List am_C := am_hp (am_TC L xs J N G U p) M D
def cP (P : tx_P) (J : Nat → Int32) (N : Nat → Nat → Int32) : Prop := J 0 = nI P.2 ∧ P.2 ≤ 96 ∧ ∀ j, j < P.2 → N 0 j = nI (P.1 j) ∧ P.1 j < 256
theorem cP.keep {P : tx_P} {J J' : Nat → Int32} {N N' : Nat → Nat → Int32} (h : cP P J N) (h0 : J' 0 = J 0) (h1 : N' 0 = N 0) : cP P J' N' := ⟨h0.trans h.1, h.2.1, fun j hj => by rw [h1]; exact h.2.2 j hj⟩
def symI (P : tx_P) (p : Nat) : Int32 := if p < P.2 then nI (P.1 p) else -1
theorem symI_eq {P : tx_P} (hP : ∀ j, j < P.2 → P.1 j < 256) {p c : Nat} (hc : c < 128) : symI P p = nI c ↔ sy P p = c := by
  rw [symI, sy]
  split
  · rename_i h
    have := hP p h
    exact nI_eq (by omega) (by omega)
  · have key : ∀ c, c < 128 → ((-1 : Int32) = nI c ↔ 256 = c) := by decide +kernel
    exact key c hc
section TAPE
variable {L : Nat} {xs : Nat → Int32} {J : Nat → Int32} {N : Nat → Nat → Int32} {G : Nat → Nat → Int64} {U : Int64} {p : Nat → Nat} {M : Nat → am_C} {D : List am_C} {P : tx_P}
theorem cP.lt (h : cP P J N) : ∀ j, j < P.2 → P.1 j < 256 := fun j hj => (h.2.2 j hj).2
theorem c_Ta_length (h : cP P J N) : Do m_Ta_length [.ref 7] (hC L xs J N G U p M D) (fun r h' => r = some (.int (nI P.2)) ∧ h' = hC L xs J N G U p M D) := by
  iterate 2 refine go_s rfl rfl rfl trivial ?_
  rw [h.1]
  exact go_r rfl rfl rfl trivial ⟨rfl, rfl⟩
theorem c_Ta_symbolAt (h : cP P J N) {k : Nat} (hk : k < 1000) : Do m_Ta_symbolAt [.ref 7, .int (nI k)] (hC L xs J N G U p M D) (fun r h' => r = some (.int (symI P k)) ∧ h' = hC L xs J N G U p M D) := by
  obtain ⟨p1, p2, p3⟩ := h
  have ck : (nI k).toNatClampNeg = k := nI_clamp (by omega)
  iterate 2 refine go_s rfl rfl rfl trivial ?_
  refine go_if (fun hc => absurd hc (nI_pos (by omega))) (fun _ => ?_)
  iterate 3 refine go_s rfl rfl rfl trivial ?_
  rw [p1]
  iterate 1 refine go_s rfl rfl rfl trivial ?_
  refine go_if (fun hc => ?_) (fun hc => ?_)
  · have := (nI_leI (by omega) (by omega)).mp hc
    iterate 1 refine go_s rfl rfl rfl trivial ?_
    refine go_r rfl rfl rfl trivial ⟨?_, rfl⟩
    rw [symI, if_neg (by omega)]
  · have hlt : k < P.2 := Nat.lt_of_not_le fun q => hc ((nI_leI (by omega) (by omega)).mpr q)
    iterate 4 refine go_s rfl rfl rfl trivial ?_
    iterate 1 refine go_s rfl rfl rfl trivial ?_
    refine go_if (fun hc1 => absurd hc1 (nI_ge (a := k) (b := 96) (by omega) (by omega))) (fun _ => ?_)
    iterate 3 refine go_s rfl rfl rfl trivial ?_
    refine go_s rfl rfl rfl ?_ ?_
    · exact vp_in_nI (by omega) (by omega)
    iterate 1 refine go_s rfl rfl rfl trivial ?_
    refine go_r rfl rfl rfl trivial ⟨?_, rfl⟩
    rw [ck, (p3 k hlt).1, symI, if_pos hlt]
theorem c_Ta_wordEnd (h : cP P J N) {s : Nat} (hs : s ≤ P.2) : Do m_Ta_wordEnd [.ref 7, .int (nI s)] (hC L xs J N G U p M D) (fun r h' => r = some (.int (nI (s + wl P s))) ∧ h' = hC L xs J N G U p M D) := by
  obtain ⟨p1, p2, p3⟩ := id h
  have key : ∀ (d e : Nat), P.2 = e + d → s + wl P s = e + wl P e → Go m_Ta_wordEnd 2 [some (.ref 7), some (.int (nI s)), some (.int (nI e))] [] (hC L xs J N G U p M D) (fun r h' => r = some (.int (nI (s + wl P s))) ∧ h' = hC L xs J N G U p M D) := by
    intro d
    induction d with
    | zero =>
      intro e he hwl
      iterate 3 refine go_s rfl rfl rfl trivial ?_
      rw [p1]
      iterate 1 refine go_s rfl rfl rfl trivial ?_
      refine go_if (fun _ => ?_) (fun hc => absurd (nI_le (by omega) (by omega)) hc)
      iterate 2 refine go_s rfl rfl rfl trivial ?_
      rw [p1]
      refine go_r rfl rfl rfl trivial ⟨?_, rfl⟩
      rw [hwl, wl_no (lq_out (by omega)), he]
    | succ d ih =>
      intro e he hwl
      obtain ⟨y1, y2⟩ := p3 e (by omega)
      have hd := dgb_lt (P.1 e)
      have e1 : lq P e = ltr (P.1 e) := if_pos (by omega)
      have e2 : symI P e = nI (P.1 e) := if_pos (by omega)
      iterate 3 refine go_s rfl rfl rfl trivial ?_
      rw [p1]
      iterate 1 refine go_s rfl rfl rfl trivial ?_
      refine go_if (fun hc => absurd hc (nI_ge (by omega) (by omega))) (fun _ => ?_)
      iterate 2 refine go_s rfl rfl rfl trivial ?_
      refine go_c rfl rfl rfl (c_Ta_symbolAt h (k := e) (by omega)) ?_
      rintro r h1 ⟨rfl, rfl⟩
      rw [e2]
      refine go_c rfl rfl rfl (c_digitOf _ y2) ?_
      rintro r h1 ⟨rfl, rfl⟩
      iterate 1 refine go_s rfl rfl rfl trivial ?_
      refine go_if (fun hc => ?_) (fun hc => ?_)
      · have hz : lq P e ≠ 0 := fun q => by
          rw [e1] at q
          exact hc (by rw [(dgb_z _).mpr q]; rfl)
        iterate 2 refine go_s rfl rfl rfl trivial ?_
        rw [nI_1]
        exact ih (e + 1) (by omega) (by rw [hwl, wl_yes hz]; omega)
      · have hz : lq P e = 0 := by
          rw [e1]
          exact (dgb_z _).mp (nI_inj (by omega) (by omega) (Classical.not_not.mp hc))
        iterate 1 refine go_s rfl rfl rfl trivial ?_
        refine go_r rfl rfl rfl trivial ⟨?_, rfl⟩
        rw [hwl, wl_no hz]
        rfl
  iterate 2 refine go_s rfl rfl rfl trivial ?_
  exact key (P.2 - s) s (by omega) rfl
theorem c_Ta_wordBetween (h : cP P J N) {s : Nat} (hs : s ≤ P.2) : Do m_Ta_wordBetween [.ref 7, .int (nI s), .int (nI (s + wl P s))] (hC L xs J N G U p M D) (fun r h' => r = some (.long (lN (enc ((wrd P s (wl P s)).take 12)))) ∧ h' = hC L xs J N G U p M D) := by
  obtain ⟨p1, p2, p3⟩ := id h
  have hwl := wl_le hs
  have key : ∀ (d i : Nat) (X6 : Option Value), 12 = i + d → Go m_Ta_wordBetween 5 [some (.ref 7), some (.int (nI s)), some (.int (nI (s + wl P s))), some (.long (lN (pre ((wrd P s (wl P s)).take 12) i))), none, some (.int (nI i)), X6] [] (hC L xs J N G U p M D) (fun r h' => r = some (.long (lN (enc ((wrd P s (wl P s)).take 12)))) ∧ h' = hC L xs J N G U p M D) := by
    intro d
    induction d with
    | zero =>
      intro i X6 hi
      have ei : i = 12 := by omega
      subst ei
      iterate 3 refine go_s rfl rfl rfl trivial ?_
      refine go_if (fun _ => ?_) (fun hc => absurd (by decide) hc)
      iterate 1 refine go_s rfl rfl rfl trivial ?_
      exact go_r rfl rfl rfl trivial ⟨rfl, rfl⟩
    | succ d ih =>
      intro i X6 hi
      have hdg := dgt_wrd (P := P) (s := s) (i := i) (by omega)
      have fin : ∀ g : Nat, g = dgt ((wrd P s (wl P s)).take 12) i → Go m_Ta_wordBetween 38 [some (.ref 7), some (.int (nI s)), some (.int (nI (s + wl P s))), some (.long (lN (pre ((wrd P s (wl P s)).take 12) i))), none, some (.int (nI i)), some (.int (nI (s + i)))] [.int (nI g), .long (lN (pre ((wrd P s (wl P s)).take 12) i))] (hC L xs J N G U p M D) (fun r h' => r = some (.long (lN (enc ((wrd P s (wl P s)).take 12)))) ∧ h' = hC L xs J N G U p M D) := by
        rintro g rfl
        have := dgt_lt ((wrd P s (wl P s)).take 12) i
        refine go_c rfl rfl rfl (c_withDigit _ (pre ((wrd P s (wl P s)).take 12) i) (dgt ((wrd P s (wl P s)).take 12) i) (by omega)) ?_
        rintro r h1 ⟨rfl, rfl⟩
        iterate 3 refine go_s rfl rfl rfl trivial ?_
        rw [nI_1]
        exact ih (i + 1) _ (by omega)
      iterate 3 refine go_s rfl rfl rfl trivial ?_
      refine go_if (fun hc => absurd hc (nI_ge (a := i) (b := 12) (by omega) (by omega))) (fun _ => ?_)
      iterate 3 refine go_s rfl rfl rfl trivial ?_
      rw [nI_add]
      iterate 5 refine go_s rfl rfl rfl trivial ?_
      refine go_if (fun hc => ?_) (fun hc => ?_)
      · have := (nI_leI (by omega) (by omega)).mp hc
        iterate 1 refine go_s rfl rfl rfl trivial ?_
        exact fin 0 (by rw [hdg, if_neg (by omega)])
      · have hlt : ¬ s + wl P s ≤ s + i := fun q => hc ((nI_leI (by omega) (by omega)).mpr q)
        obtain ⟨y1, y2⟩ := p3 (s + i) (by omega)
        have e2 : symI P (s + i) = nI (P.1 (s + i)) := if_pos (by omega)
        iterate 2 refine go_s rfl rfl rfl trivial ?_
        refine go_c rfl rfl rfl (c_Ta_symbolAt h (k := s + i) (by omega)) ?_
        rintro r h1 ⟨rfl, rfl⟩
        rw [e2]
        refine go_c rfl rfl rfl (c_digitOf _ y2) ?_
        rintro r h1 ⟨rfl, rfl⟩
        iterate 1 refine go_s rfl rfl rfl trivial ?_
        exact fin _ (by rw [hdg, if_pos (by omega)])
  iterate 4 refine go_s rfl rfl rfl trivial ?_
  exact key 12 0 _ rfl
theorem l255 (x : Int64) : (x &&& 255).toInt32 = nI (x.toBitVec.toNat % 256) := by
  apply Int32.toBitVec_inj.mp
  rw [Int64.toBitVec_toInt32, Int64.toBitVec_and]
  have hn : (nI (x.toBitVec.toNat % 256)).toBitVec = BitVec.ofNat 32 (x.toBitVec.toNat % 256) := rfl
  have hb : ∀ i, i < 32 → ((255 : Int64).toBitVec).getLsbD i = decide (i < 8) := by decide
  rw [hn]
  apply BitVec.eq_of_getLsbD_eq
  intro i hi
  have h1 : i < 64 := by omega
  rw [BitVec.getLsbD_signExtend, BitVec.getLsbD_ofNat, BitVec.getLsbD_and, hb i hi, show (256 : Nat) = 2 ^ 8 from rfl, Nat.testBit_mod_two_pow]
  simp [hi, h1, BitVec.getLsbD, Bool.and_comm]
theorem byte_l (v : Int64) {k : Nat} (hk : k < 8) : ((v.toUInt64 >>> ((nI (8 * k)).toInt64.toUInt64 &&& Int64.toUInt64 63)).toInt64 &&& 255).toInt32 = nI (byI v k) := by
  rw [l255]
  have h : ((nI (8 * k)).toInt64.toUInt64 &&& Int64.toUInt64 63).toNat % 64 = 8 * k := by
    have : ∀ k, k < 8 → ((nI (8 * k)).toInt64.toUInt64 &&& Int64.toUInt64 63).toNat % 64 = 8 * k := by decide +kernel
    exact this k hk
  have e : ((v.toUInt64 >>> ((nI (8 * k)).toInt64.toUInt64 &&& Int64.toUInt64 63)).toInt64).toBitVec.toNat = v.toBitVec.toNat / 2 ^ (8 * k) := by
    show (v.toUInt64 >>> ((nI (8 * k)).toInt64.toUInt64 &&& Int64.toUInt64 63)).toNat = _
    rw [UInt64.toNat_shiftRight, Nat.shiftRight_eq_div_pow, h]
    rfl
  rw [e]
  rfl
theorem c_Ta_append (h : cP P J N) (v : Int64) {c : Nat} (hc1 : 1 ≤ c) (hc8 : c ≤ 8) : Do m_Ta_append [.ref 7, .long v, .int (nI c)] (hC L xs J N G U p M D) (fun r h' => (96 < P.2 + c ∧ r = some (.int 0) ∧ h' = hC L xs J N G U p M D) ∨ (P.2 + c ≤ 96 ∧ r = some (.int 1) ∧ ∃ J' N', h' = hC L xs J' N' G U p M D ∧ cP (tapF P.1 P.2 c v, P.2 + c) J' N' ∧ (∀ i, i ≠ 0 → J' i = J i) ∧ ∀ i, i ≠ 0 → N' i = N i)) := by
  obtain ⟨p1, p2, p3⟩ := id h
  iterate 2 refine go_s rfl rfl rfl trivial ?_
  rw [p1]
  iterate 2 refine go_s rfl rfl rfl trivial ?_
  rw [nI_add]
  iterate 2 refine go_s rfl rfl rfl trivial ?_
  refine go_if (fun hc => ?_) (fun hc => ?_)
  · have hle := (nI_leI (b := 96) (by omega) (by omega)).mp hc
    have key : ∀ (d m : Nat) (J1 : Nat → Int32) (N1 : Nat → Nat → Int32), m + d = P.2 + c → P.2 ≤ m → cP (tapF P.1 P.2 c v, m) J1 N1 → (∀ i, i ≠ 0 → J1 i = J i) → (∀ i, i ≠ 0 → N1 i = N i) →
        Go m_Ta_append 18 [some (.ref 7), some (.long v), none, some (.int (nI c)), some (.int (nI d + -1))] [] (hC L xs J1 N1 G U p M D) (fun r h' => (96 < P.2 + c ∧ r = some (.int 0) ∧ h' = hC L xs J N G U p M D) ∨ (P.2 + c ≤ 96 ∧ r = some (.int 1) ∧ ∃ J' N', h' = hC L xs J' N' G U p M D ∧ cP (tapF P.1 P.2 c v, P.2 + c) J' N' ∧ (∀ i, i ≠ 0 → J' i = J i) ∧ ∀ i, i ≠ 0 → N' i = N i)) := by
      intro d
      induction d with
      | zero =>
        intro m J1 N1 hm hm2 hP1 hJ hN
        have em : m = P.2 + c := by omega
        subst em
        iterate 2 refine go_s rfl rfl rfl trivial ?_
        refine go_if (fun _ => ?_) (fun hc => absurd (by decide) hc)
        iterate 1 refine go_s rfl rfl rfl trivial ?_
        exact go_r rfl rfl rfl (Or.inr rfl) (Or.inr ⟨hle, rfl, J1, N1, rfl, hP1, hJ, hN⟩)
      | succ d ih =>
        intro m J1 N1 hm hm2 hP1 hJ hN
        obtain ⟨q1, q2, q3⟩ := id hP1
        have q1 : J1 0 = nI m := q1
        have cm : (nI m).toNatClampNeg = m := nI_clamp (by omega)
        rw [pk_m1]
        iterate 2 refine go_s rfl rfl rfl trivial ?_
        refine go_if (fun hc => absurd hc (nI_pos (by omega))) (fun _ => ?_)
        iterate 2 refine go_s rfl rfl rfl trivial ?_
        rw [q1]
        iterate 4 refine go_s rfl rfl rfl trivial ?_
        refine go_if (fun hc => absurd hc (nI_ge (a := m) (b := 96) (by omega) (by omega))) (fun _ => ?_)
        iterate 4 refine go_s rfl rfl rfl trivial ?_
        rw [q1]
        iterate 4 refine go_s rfl rfl rfl trivial ?_
        rw [show (8 : Int32) * nI d = nI (8 * d) by rw [show (8 : Int32) = nI 8 from rfl, pk_mul]]
        iterate 4 refine go_s rfl rfl rfl trivial ?_
        rw [byte_l v (by omega)]
        refine go_s rfl rfl rfl ?_ ?_
        · exact vp_in_nI (by omega) (by omega)
        simp only [cm]
        iterate 3 refine go_s rfl rfl rfl trivial ?_
        rw [q1]
        iterate 2 refine go_s rfl rfl rfl trivial ?_
        rw [nI_1]
        iterate 3 refine go_s rfl rfl rfl trivial ?_
        refine ih (m + 1) (va_up J1 0 (nI (m + 1))) (va_up N1 0 (upd (N1 0) m (nI (byI v d)))) (by omega) (by omega) ⟨va_up_self _ _ _, by show m + 1 ≤ 96; omega, fun j hj => ?_⟩ (fun i hi => (va_up_ne _ _ hi).trans (hJ i hi)) (fun i hi => (va_up_ne _ _ hi).trans (hN i hi))
        have hj' : j < m + 1 := hj
        show va_up N1 0 (upd (N1 0) m (nI (byI v d))) 0 j = nI (tapF P.1 P.2 c v j) ∧ tapF P.1 P.2 c v j < 256
        rw [va_up_self]
        by_cases e : j = m
        · subst e
          have e2 : tapF P.1 P.2 c v j = byI v d := by
            rw [tapF, if_neg (by omega), show P.2 + c - 1 - j = d by omega]
          rw [pk_us, e2]
          exact ⟨rfl, byI_lt v d⟩
        · rw [pk_un e]
          exact q3 j (by show j < m; omega)
    iterate 3 refine go_s rfl rfl rfl trivial ?_
    rw [show nI c - 1 = nI c + -1 from Int32.sub_eq_add_neg _ _]
    iterate 1 refine go_s rfl rfl rfl trivial ?_
    refine key c P.2 J N rfl (Nat.le_refl _) ⟨p1, p2, fun j hj => ?_⟩ (fun _ _ => rfl) (fun _ _ => rfl)
    show N 0 j = nI (tapF P.1 P.2 c v j) ∧ tapF P.1 P.2 c v j < 256
    rw [tapF, if_pos hj]
    exact p3 j hj
  · have hle : 96 < P.2 + c := Nat.lt_of_not_le fun q => hc ((nI_leI (b := 96) (by omega) (by omega)).mpr q)
    iterate 1 refine go_s rfl rfl rfl trivial ?_
    exact go_r rfl rfl rfl (Or.inl rfl) (Or.inl ⟨hle, rfl, rfl⟩)
theorem c_Ta_clear (J : Nat → Int32) (N : Nat → Nat → Int32) (G : Nat → Nat → Int64) : Do m_Ta_clear [.ref 7] (hC L xs J N G U p M D) (fun r h' => r = none ∧ h' = hC L xs (va_up (va_up J 0 0) 1 0) N G U p M D) := by
  iterate 6 refine go_s rfl rfl rfl trivial ?_
  exact go_r rfl rfl rfl trivial ⟨rfl, rfl⟩
end TAPE
