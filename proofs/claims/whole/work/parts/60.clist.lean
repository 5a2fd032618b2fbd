/-! ===== the list of parts ===== -/
/-- what isn't a row of objects stays -/
def dP (D D' : List am_C) : Prop := ∀ j c, am_get D j = some c → (∀ x, c ≠ .inl (4, x)) → am_get D' j = some c
theorem dP.rf (D : List am_C) : dP D D := fun _ _ h _ => h
theorem dP.tr {D D1 D2 : List am_C} (h1 : dP D D1) (h2 : dP D1 D2) : dP D D2 := fun j c h q => h2 j c (h1 j c h q) q
theorem dP.set {D : List am_C} {j : Nat} {y : Nat × ((Nat → Int32) ⊕ ((Nat → Int64) ⊕ ((Nat → UInt32) ⊕ ((Nat → UInt64) ⊕ (Nat → Option Nat)))))} (h : am_get D j = some (.inl (4, y))) (c : am_C) : dP D (am_set D j c) := by
  intro j' c' h' q
  by_cases e : j' = j
  · subst e
    rw [h] at h'
    cases h'
    exact absurd rfl (q y)
  · rw [am_get_set_ne _ _ (fun g => e g.symm)]
    exact h'
theorem dP.push (D : List am_C) (c : am_C) : dP D (D ++ [c]) := fun j c' h _ => by rw [am_get_push _ _ (am_get_lt h)]; exact h
theorem dP.long {D D' : List am_C} (h : dP D D') (j : Nat) (y : Nat × ((Nat → Int32) ⊕ ((Nat → Int64) ⊕ ((Nat → UInt32) ⊕ ((Nat → UInt64) ⊕ (Nat → Option Nat)))))) (hj : am_get D j = some (.inl (3, y))) : am_get D' j = some (.inl (3, y)) := h j _ hj (fun x q => by cases q)
theorem dP.part {D D' : List am_C} (h : dP D D') {j : Nat} {fs : List Value} (hj : am_get D j = some (.inr (9, fs))) : am_get D' j = some (.inr (9, fs)) := h j _ hj (fun x q => by cases q)
/-- the list holds n objects, the i-th at f i of D -/
def cLst (n : Nat) (f : Nat → Nat) (p : Nat → Nat) (J : Nat → Int32) (D : List am_C) : Prop := J 15 = nI n ∧ n ≤ 48 ∧ ((p 3 = 0 ∧ n = 0) ∨ ∃ j cap ff, p 3 = j + 70 ∧ am_get D j = some (.inl (4, (cap, .inr (.inr (.inr (.inr ff)))))) ∧ n ≤ cap ∧ 10 ≤ cap ∧ cap ≤ 100 ∧ (∀ i, i < n → ff i = some (f i + 70)) ∧ ∀ i, i < n → ∃ fs, am_get D (f i) = some (.inr (9, fs)))
section LISTS
variable {L : Nat} {xs : Nat → Int32} {J : Nat → Int32} {N : Nat → Nat → Int32} {G : Nat → Nat → Int64} {U : Int64} {p : Nat → Nat} {M : Nat → am_C} {D : List am_C}
theorem s_asN {df : Nat → List Value} {ft : Nat → Nat → FieldType} {nx a b : Nat} {k i : Int32} {l : Int64} {ls : List (Option Value)} {st : List Value} {h : List am_C} {r n : Nat} {f : Nat → Option Nat} (hr : am_get h r = some (.inl (4, (n, .inr (.inr (.inr (.inr f))))))) (h6 : 6 ≤ r) : am_s df ft .aastore nx a b k l ls (.null :: .int i :: .ref r :: st) h = some (vp_in i n, nx, ls, st, am_set h r (.inl (4, (n, .inr (.inr (.inr (.inr (va_up f i.toNatClampNeg none)))))))) := by
  show am_aast nx a b k l ls (.null :: .int i :: .ref r :: st) h = _
  simp only [am_aast, hr, ble_t h6, nbq, Bool.true_or, Bool.and_self]
theorem s_asP {df : Nat → List Value} {ft : Nat → Nat → FieldType} {nx a b : Nat} {k i : Int32} {l : Int64} {ls : List (Option Value)} {st : List Value} {h : List am_C} {r v n : Nat} {f : Nat → Option Nat} {fs : List Value} (hr : am_get h r = some (.inl (4, (n, .inr (.inr (.inr (.inr f))))))) (h6 : 6 ≤ r) (hv : am_get h v = some (.inr (9, fs))) (h6v : 6 ≤ v) : am_s df ft .aastore nx a b k l ls (.ref v :: .int i :: .ref r :: st) h = some (vp_in i n, nx, ls, st, am_set h r (.inl (4, (n, .inr (.inr (.inr (.inr (va_up f i.toNatClampNeg (some v))))))))) := by
  have e : am_cast 4 9 = true := rfl
  show am_aast nx a b k l ls (.ref v :: .int i :: .ref r :: st) h = _
  simp only [am_aast, hr, hv, e, ble_t h6, ble_t h6v, Bool.and_self]
theorem s_getc {df : Nat → List Value} {ft : Nat → Nat → FieldType} {q nx a b : Nat} {k : Int32} {l : Int64} {ls : List (Option Value)} {st : List Value} {h : List am_C} {r : Nat} {y : Nat × ((Nat → Int32) ⊕ ((Nat → Int64) ⊕ ((Nat → UInt32) ⊕ ((Nat → UInt64) ⊕ (Nat → Option Nat)))))} (hr : am_get h r = some (.inl (4, y))) (h6 : 6 ≤ r) (hst : am_room st = true) : am_s df ft (.invokevirtual q) nx a b k l ls (.ref r :: st) h = some (True, nx, ls, .ref 4 :: st, h) := by
  show am_getc nx a b k l ls (.ref r :: st) h = _
  simp only [am_getc, hr, ble_t h6, nbq, hst, Bool.and_self]
theorem s_chk {df : Nat → List Value} {ft : Nat → Nat → FieldType} {q nx a b : Nat} {k : Int32} {l : Int64} {ls : List (Option Value)} {st : List Value} {h : List am_C} {r : Nat} {fs : List Value} (hr : am_get h r = some (.inr (a, fs))) (h6 : 6 ≤ r) : am_s df ft (.checkcast q) nx a b k l ls (.ref r :: st) h = some (True, nx, ls, .ref r :: st, h) := by
  show am_chk nx a b k l ls (.ref r :: st) h = _
  simp only [am_chk, hr, ble_t h6, nbq, Bool.and_self]
theorem s_cpyQ {df : Nat → List Value} {ft : Nat → Nat → FieldType} {q nx a : Nat} {k : Int32} {l : Int64} {ls : List (Option Value)} {st : List Value} {h : List am_C} {r0 r1 n0 n1 : Nat} {n dp sp : Int32} {f g : Nat → Option Nat} (hr0 : am_get h r0 = some (.inl (4, (n0, .inr (.inr (.inr (.inr f))))))) (hr1 : am_get h r1 = some (.inl (4, (n1, .inr (.inr (.inr (.inr g))))))) (hst : am_room st = true) : am_s df ft (.invokestatic q) nx a 6 k l ls (.int n :: .int dp :: .ref r1 :: .int sp :: .ref r0 :: st) h = some (6 ≤ r0 ∧ 6 ≤ r1 ∧ ¬ sp < 0 ∧ ¬ dp < 0 ∧ ¬ n < 0 ∧ sp.toNatClampNeg + n.toNatClampNeg ≤ n0 ∧ dp.toNatClampNeg + n.toNatClampNeg ≤ n1 ∧ (∀ i : Nat, i < n.toNatClampNeg → ∀ y : Nat, f (sp.toNatClampNeg + i) = some y → 6 ≤ y ∧ ∃ fs, am_get h y = some (.inr (9, fs))), nx, ls, st, am_set h r1 (.inl (4, (n1, .inr (.inr (.inr (.inr (va_cpy f g sp.toNatClampNeg dp.toNatClampNeg n.toNatClampNeg)))))))) := by
  show am_cpy nx a 6 k l ls (.int n :: .int dp :: .ref r1 :: .int sp :: .ref r0 :: st) h = _
  simp only [am_cpy, hst, hr0, hr1]
theorem c_copyOf2 {h : List am_C} {a n m : Nat} {f : Nat → Option Nat} (hr : am_get h a = some (.inl (4, (n, .inr (.inr (.inr (.inr f))))))) (h6 : 6 ≤ a) (hn : n ≤ 4096) (hm : m ≤ 4096) (hp : ∀ i, i < n → ∀ y, f i = some y → 6 ≤ y ∧ ∃ fs, am_get h y = some (.inr (9, fs))) : Do m_Ar_copyOf2 [.ref a, .int (nI m), .ref 4] h (fun r h' => r = some (.ref h.length) ∧ ∃ g, h' = h ++ [.inl (4, (m, .inr (.inr (.inr (.inr g)))))] ∧ ∀ k, k < min n m → g k = f k) := by
  have cm : (nI m).toNatClampNeg = m := nI_clamp (by omega)
  have hl := am_get_lt hr
  iterate 2 refine go_s rfl rfl rfl trivial ?_
  refine go_s rfl rfl rfl ?_ ?_
  · exact Or.inl rfl
  refine go_if (fun hc => absurd rfl hc) (fun _ => ?_)
  iterate 1 refine go_s rfl rfl rfl trivial ?_
  refine go_s rfl rfl rfl ?_ ?_
  · exact ⟨nI_pos (by omega), by rw [cm]; omega⟩
  rw [cm]
  have hr2 : am_get (h ++ [.inl (4, (m, .inr (.inr (.inr (.inr fun _ => none)))))]) a = some (.inl (4, (n, .inr (.inr (.inr (.inr f)))))) := by
    rw [am_get_push _ _ hl]
    exact hr
  iterate 7 refine go_s rfl rfl rfl trivial ?_
  refine go_s rfl rfl (s_ar hr2 (by decide)) trivial ?_
  iterate 2 refine go_s rfl rfl rfl trivial ?_
  rw [minI (by omega) (by omega)]
  have c0 : (nI (min n m)).toNatClampNeg = min n m := nI_clamp (by omega)
  refine go_s rfl rfl (s_cpyQ hr2 (r1 := h.length) (n1 := m) (g := fun _ => none) (get_push h _) rfl) ?_ ?_
  · rw [c0]
    refine ⟨h6, by omega, by decide, by decide, nI_pos (by omega), ?_, ?_, fun i hi y hy => ?_⟩
    · show 0 + min n m ≤ n
      omega
    · show 0 + min n m ≤ m
      omega
    · have hy' : f (0 + i) = some y := hy
      rw [Nat.zero_add] at hy'
      obtain ⟨q1, fs, q2⟩ := hp i (by omega) y hy'
      exact ⟨q1, fs, by rw [am_get_push _ _ (am_get_lt q2)]; exact q2⟩
  rw [set_push, c0]
  iterate 1 refine go_s rfl rfl rfl trivial ?_
  refine go_r rfl rfl rfl trivial ⟨rfl, _, rfl, fun k hk => ?_⟩
  exact (pk_cpy_in (Nat.zero_le _) (by show k < 0 + min n m; omega)).trans (by show f (0 + (k - 0)) = f k; congr 1; omega)
theorem c_copyOf1 {h : List am_C} {a n m : Nat} {f : Nat → Option Nat} (hr : am_get h a = some (.inl (4, (n, .inr (.inr (.inr (.inr f))))))) (h6 : 6 ≤ a) (hn : n ≤ 4096) (hm : m ≤ 4096) (hp : ∀ i, i < n → ∀ y, f i = some y → 6 ≤ y ∧ ∃ fs, am_get h y = some (.inr (9, fs))) : Do m_Ar_copyOf1 [.ref a, .int (nI m)] h (fun r h' => r = some (.ref h.length) ∧ ∃ g, h' = h ++ [.inl (4, (m, .inr (.inr (.inr (.inr g)))))] ∧ ∀ k, k < min n m → g k = f k) := by
  iterate 3 refine go_s rfl rfl rfl trivial ?_
  refine go_s rfl rfl (s_getc hr h6 rfl) trivial ?_
  refine go_c rfl rfl rfl (c_copyOf2 hr h6 hn hm hp) ?_
  rintro r h1 ⟨rfl, g, rfl, hg⟩
  exact go_r rfl rfl rfl trivial ⟨rfl, g, rfl, hg⟩
theorem maxI {a b : Nat} (ha : a < 2 ^ 31) (hb : b < 2 ^ 31) : (if nI a < nI b then nI b else nI a) = nI (max a b) := by
  by_cases q : a < b
  · rw [if_pos ((nI_ltI ha hb).mpr q), Nat.max_eq_right (by omega)]
  · rw [if_neg (fun g => q ((nI_ltI ha hb).mp g)), Nat.max_eq_left (by omega)]
theorem c_newLength (h : List am_C) {a b c : Nat} (ha : 0 < a) (h1 : a ≤ 1000) (h2 : b ≤ 1000) (h3 : c ≤ 1000) : Do m_AS_newLength [.int (nI a), .int (nI b), .int (nI c)] h (fun r h' => r = some (.int (nI (a + max b c))) ∧ h' = h) := by
  iterate 4 refine go_s rfl rfl rfl trivial ?_
  rw [maxI (by omega) (by omega)]
  iterate 1 refine go_s rfl rfl rfl trivial ?_
  rw [nI_add]
  iterate 4 refine go_s rfl rfl rfl trivial ?_
  refine go_if (fun hc => absurd hc (nI_nle (by omega) (by omega))) (fun _ => ?_)
  iterate 3 refine go_s rfl rfl rfl trivial ?_
  refine go_if (fun hc => absurd ((nI_ltI (a := 2147483639) (b := a + max b c) (by omega) (by omega)).mp hc) (by omega)) (fun _ => ?_)
  iterate 1 refine go_s rfl rfl rfl trivial ?_
  exact go_r rfl rfl rfl trivial ⟨rfl, rfl⟩
theorem shr1 {n : Nat} (h : n ≤ 100) : nI n >>> ((1 : Int32) &&& 31) = nI (n / 2) := by
  have key : ∀ n, n ≤ 100 → nI n >>> ((1 : Int32) &&& 31) = nI (n / 2) := by decide +kernel
  exact key n h
theorem c_AL_size {n : Nat} {f : Nat → Nat} (h : cLst n f p J D) : Do m_AL_size [.ref 35] (hC L xs J N G U p M D) (fun r h' => r = some (.int (nI n)) ∧ h' = hC L xs J N G U p M D) := by
  iterate 2 refine go_s rfl rfl rfl trivial ?_
  rw [h.1]
  exact go_r rfl rfl rfl trivial ⟨rfl, rfl⟩
theorem c_AL_get {n i : Nat} {f : Nat → Nat} (h : cLst n f p J D) (hi : i < n) : Do m_AL_get [.ref 35, .int (nI i)] (hC L xs J N G U p M D) (fun r h' => r = some (.ref (f i + 70)) ∧ h' = hC L xs J N G U p M D) := by
  obtain ⟨h1, h48, h2⟩ := h
  have ci : (nI i).toNatClampNeg = i := nI_clamp (by omega)
  have pr : Do m_Pr_checkIndex [.int (nI i), .int (nI n), .null] (hC L xs J N G U p M D) (fun r h' => r = some (.int (nI i)) ∧ h' = hC L xs J N G U p M D) := by
    iterate 2 refine go_s rfl rfl rfl trivial ?_
    refine go_if (fun hc => absurd hc (nI_pos (by omega))) (fun _ => ?_)
    iterate 3 refine go_s rfl rfl rfl trivial ?_
    refine go_if (fun _ => ?_) (fun hc => absurd (nI_lt hi (by omega)) hc)
    iterate 1 refine go_s rfl rfl rfl trivial ?_
    exact go_r rfl rfl rfl trivial ⟨rfl, rfl⟩
  have ob : Do m_Ob_checkIndex [.int (nI i), .int (nI n)] (hC L xs J N G U p M D) (fun r h' => r = some (.int (nI i)) ∧ h' = hC L xs J N G U p M D) := by
    iterate 3 refine go_s rfl rfl rfl trivial ?_
    refine go_c rfl rfl rfl pr ?_
    rintro r h3 ⟨rfl, rfl⟩
    exact go_r rfl rfl rfl trivial ⟨rfl, rfl⟩
  have ed : Do m_AL_elementData [.ref 35, .int (nI i)] (hC L xs J N G U p M D) (fun r h' => r = some (.ref (f i + 70)) ∧ h' = hC L xs J N G U p M D) := by
    rcases h2 with ⟨-, e⟩ | ⟨j, cap, ff, e1, e2, e3, e4, e5, e6, e7⟩
    · omega
    · iterate 2 refine go_s rfl rfl rfl trivial ?_
      rw [e1]
      iterate 1 refine go_s rfl rfl rfl trivial ?_
      refine go_s rfl rfl (s_aa (h := hC L xs J N G U p M D) (r := j + 70) e2 (by omega) (Or.inl rfl)) (vp_in_nI (by omega) (by omega)) ?_
      rw [ci, e6 i hi]
      exact go_r rfl rfl rfl trivial ⟨rfl, rfl⟩
  iterate 3 refine go_s rfl rfl rfl trivial ?_
  rw [h1]
  refine go_c rfl rfl rfl ob ?_
  rintro r h3 ⟨rfl, rfl⟩
  iterate 3 refine go_s rfl rfl rfl trivial ?_
  refine go_c rfl rfl rfl ed ?_
  rintro r h3 ⟨rfl, rfl⟩
  exact go_r rfl rfl rfl trivial ⟨rfl, rfl⟩
theorem c_AL_clear {n : Nat} {f : Nat → Nat} (h : cLst n f p J D) : Do m_AL_clear [.ref 35] (hC L xs J N G U p M D) (fun r h' => r = none ∧ ∃ J' D', h' = hC L xs J' N G U p M D' ∧ (∀ f', cLst 0 f' p J' D') ∧ (∀ i, i ≠ 14 → i ≠ 15 → J' i = J i) ∧ dP D D' ∧ am_sz D' = am_sz D ∧ D'.length = D.length) := by
  obtain ⟨h1, h48, h2⟩ := h
  iterate 6 refine go_s rfl rfl rfl trivial ?_
  change Go m_AL_clear 10 _ _ (hC L xs (va_up J 14 (J 14 + 1)) N G U p M D) _
  iterate 5 refine go_s rfl rfl rfl trivial ?_
  change Go m_AL_clear 19 _ [.int (va_up J 14 (J 14 + 1) 15)] _ _
  rw [va_up_ne _ _ (show (15 : Nat) ≠ 14 by decide), h1]
  iterate 5 refine go_s rfl rfl rfl trivial ?_
  change Go m_AL_clear 26 _ _ (hC L xs (va_up (va_up J 14 (J 14 + 1)) 15 0) N G U p M D) _
  iterate 1 refine go_s rfl rfl rfl trivial ?_
  rcases h2 with ⟨e1, e2⟩ | ⟨j, cap, ff, e1, e2, e3, e4, e5, e6, e7⟩
  · subst e2
    iterate 3 refine go_s rfl rfl rfl trivial ?_
    refine go_if (fun _ => ?_) (fun hc => absurd (by decide) hc)
    refine go_r rfl rfl rfl trivial ⟨rfl, va_up (va_up J 14 (J 14 + 1)) 15 0, D, rfl, fun f' => ⟨rfl, by omega, Or.inl ⟨e1, rfl⟩⟩, fun i a b => (va_up_ne _ _ b).trans (va_up_ne _ _ a), dP.rf D, rfl, rfl⟩
  · have key : ∀ (d k : Nat) (D1 : List am_C) (f1 : Nat → Option Nat), n = k + d → am_get D1 j = some (.inl (4, (cap, .inr (.inr (.inr (.inr f1)))))) → dP D D1 → am_sz D1 = am_sz D → D1.length = D.length → Go m_AL_clear 27 [some (.ref 35), some (.ref (j + 70)), some (.int (nI n)), some (.int (nI k))] [] (hC L xs (va_up (va_up J 14 (J 14 + 1)) 15 0) N G U p M D1) (fun r h' => r = none ∧ ∃ J' D', h' = hC L xs J' N G U p M D' ∧ (∀ f', cLst 0 f' p J' D') ∧ (∀ i, i ≠ 14 → i ≠ 15 → J' i = J i) ∧ dP D D' ∧ am_sz D' = am_sz D ∧ D'.length = D.length) := by
      intro d
      induction d with
      | zero =>
        intro k D1 f1 hk hr hd hs hl
        have ek : k = n := by omega
        subst ek
        iterate 3 refine go_s rfl rfl rfl trivial ?_
        refine go_if (fun _ => ?_) (fun hc => absurd (Int32.le_refl _) hc)
        refine go_r rfl rfl rfl trivial ⟨rfl, va_up (va_up J 14 (J 14 + 1)) 15 0, D1, rfl, fun f' => ⟨rfl, by omega, Or.inr ⟨j, cap, f1, e1, hr, Nat.zero_le _, e4, e5, fun i hi => absurd hi (Nat.not_lt_zero i), fun i hi => absurd hi (Nat.not_lt_zero i)⟩⟩, fun i a b => (va_up_ne _ _ b).trans (va_up_ne _ _ a), hd, hs, hl⟩
      | succ d ih =>
        intro k D1 f1 hk hr hd hs hl
        iterate 3 refine go_s rfl rfl rfl trivial ?_
        refine go_if (fun hc => absurd hc (nI_ge (by omega) (by omega))) (fun _ => ?_)
        iterate 3 refine go_s rfl rfl rfl trivial ?_
        refine go_s rfl rfl (s_asN (h := hC L xs (va_up (va_up J 14 (J 14 + 1)) 15 0) N G U p M D1) (r := j + 70) hr (by omega)) (vp_in_nI (by omega) (by omega)) ?_
        iterate 2 refine go_s rfl rfl rfl trivial ?_
        rw [nI_1]
        exact ih (k + 1) (am_set D1 j (.inl (4, (cap, .inr (.inr (.inr (.inr (va_up f1 (nI k).toNatClampNeg none)))))))) (va_up f1 (nI k).toNatClampNeg none) (by omega) (get_set_eq hr _) (hd.tr (dP.set hr _)) ((am_sz_set (by exact rfl) D1 j hr).trans hs) ((am_len_set _ _ _).trans hl)
    rw [e1]
    exact key n 0 D ff (by omega) e2 (dP.rf D) rfl rfl
/-- a part's object is made -/
theorem c_Pa_init {h : List am_C} {r kd : Nat} {a b c w : Int32} {v0 v1 v2 v3 v4 : Value} (hr : am_get h r = some (.inr (9, [v0, v1, v2, v3, v4]))) (hw : w = 0 ∨ w = 1) : Do m_Pa_init [.ref r, .ref kd, .int w, .int a, .int b, .int c] h (fun rr h' => rr = none ∧ h' = am_set h r (.inr (9, [.ref kd, .int w, .int a, .int b, .int c]))) := by
  iterate 2 refine go_s rfl rfl rfl trivial ?_
  iterate 2 refine go_s rfl rfl rfl trivial ?_
  refine go_s rfl rfl (s_pf hr rfl) trivial ?_
  iterate 2 refine go_s rfl rfl rfl trivial ?_
  refine go_s rfl rfl (s_pf (get_set_eq hr _) rfl) hw ?_
  rw [set_set]
  iterate 2 refine go_s rfl rfl rfl trivial ?_
  refine go_s rfl rfl (s_pf (get_set_eq hr _) rfl) trivial ?_
  rw [set_set]
  iterate 2 refine go_s rfl rfl rfl trivial ?_
  refine go_s rfl rfl (s_pf (get_set_eq hr _) rfl) trivial ?_
  rw [set_set]
  iterate 2 refine go_s rfl rfl rfl trivial ?_
  refine go_s rfl rfl (s_pf (get_set_eq hr _) rfl) trivial ?_
  rw [set_set]
  exact go_r rfl rfl rfl trivial ⟨rfl, rfl⟩
/-- a row for more -/
theorem c_grow1 {n : Nat} {f : Nat → Nat} (h : cLst n f p J D) (hn : n < 48) (hf : p 3 = 0 ∨ ∃ j y, p 3 = j + 70 ∧ am_get D j = some (.inl (4, (n, y)))) : Do m_AL_grow1 [.ref 35, .int (nI (n + 1))] (hC L xs J N G U p M D) (fun r h' => r = some (.ref (D.length + 70)) ∧ ∃ cap ff, h' = hC L xs J N G U (va_up p 3 (D.length + 70)) M (D ++ [.inl (4, (cap, .inr (.inr (.inr (.inr ff)))))]) ∧ n < cap ∧ 10 ≤ cap ∧ cap ≤ 100 ∧ ∀ i, i < n → ff i = some (f i + 70)) := by
  obtain ⟨h1, h48, h2⟩ := h
  rcases h2 with ⟨e1, e2⟩ | ⟨j, cap, ff, e1, e2, e3, e4, e5, e6, e7⟩
  · subst e2
    iterate 2 refine go_s rfl rfl rfl trivial ?_
    rw [e1]
    iterate 4 refine go_s rfl rfl rfl trivial ?_
    refine go_if (fun hc => absurd hc (by decide)) (fun _ => ?_)
    iterate 2 refine go_s rfl rfl rfl trivial ?_
    rw [e1]
    iterate 1 refine go_s rfl rfl rfl trivial ?_
    refine go_s rfl rfl rfl ?_ ?_
    · exact Or.inl rfl
    refine go_if (fun _ => ?_) (fun hc => absurd rfl hc)
    iterate 4 refine go_s rfl rfl rfl trivial ?_
    rw [show (if (10 : Int32) < nI (0 + 1) then nI (0 + 1) else 10) = 10 from by decide]
    refine go_s rfl rfl rfl ?_ ?_
    · exact ⟨by decide, by decide⟩
    iterate 2 refine go_s rfl rfl rfl trivial ?_
    exact go_r rfl rfl rfl trivial ⟨rfl, 10, fun _ => none, rfl, by omega, by omega, by omega, fun i hi => absurd hi (Nat.not_lt_zero i)⟩
  · have hcn : n = cap := by
      rcases hf with q | ⟨j', y, q1, q2⟩
      · omega
      · have : j' = j := by omega
        rw [this, e2] at q2
        injection q2 with q2
        injection q2 with q2
        injection q2 with _ q2
        injection q2 with q2 _
        exact q2.symm
    subst hcn
    have hr : am_get (hC L xs J N G U p M D) (j + 70) = some (.inl (4, (n, .inr (.inr (.inr (.inr ff)))))) := e2
    iterate 2 refine go_s rfl rfl rfl trivial ?_
    rw [e1]
    refine go_s rfl rfl (s_ar hr (by decide)) trivial ?_
    iterate 3 refine go_s rfl rfl rfl trivial ?_
    refine go_if (fun _ => ?_) (fun hc => absurd ((nI_ltI (a := 0) (b := n) (by omega) (by omega)).mpr (by omega)) hc)
    iterate 4 refine go_s rfl rfl rfl trivial ?_
    rw [pk_sub (by omega), show n + 1 - n = 1 by omega]
    iterate 3 refine go_s rfl rfl rfl trivial ?_
    rw [shr1 e5]
    refine go_c rfl rfl rfl (c_newLength (hC L xs J N G U p M D) (a := n) (b := 1) (c := n / 2) (by omega) (by omega) (by omega) (by omega)) ?_
    rintro r h3 ⟨rfl, rfl⟩
    iterate 4 refine go_s rfl rfl rfl trivial ?_
    rw [e1]
    iterate 1 refine go_s rfl rfl rfl trivial ?_
    have hparts : ∀ i, i < n → ∀ y, ff i = some y → 6 ≤ y ∧ ∃ fs, am_get (hC L xs J N G U p M D) y = some (.inr (9, fs)) := by
      intro i hi y hy
      rw [e6 i hi] at hy
      cases hy
      obtain ⟨fs, q⟩ := e7 i hi
      exact ⟨by omega, fs, q⟩
    refine go_c rfl rfl rfl (c_copyOf1 (m := n + max 1 (n / 2)) hr (by omega) (by omega) (by omega) hparts) ?_
    rintro r h3 ⟨rfl, g, rfl, hg⟩
    iterate 2 refine go_s rfl rfl rfl trivial ?_
    refine go_r rfl rfl rfl trivial ⟨rfl, n + max 1 (n / 2), g, rfl, by omega, by omega, by omega, fun i hi => ?_⟩
    rw [hg i (by omega)]
    exact e6 i hi
theorem c_AL_add {n q : Nat} {f : Nat → Nat} {fs : List Value} (h : cLst n f p J D) (hn : n < 48) (hq : am_get D q = some (.inr (9, fs))) : Do m_AL_add2 [.ref 35, .ref (q + 70)] (hC L xs J N G U p M D) (fun r h' => r = some (.int 1) ∧ ∃ J' p' D', h' = hC L xs J' N G U p' M D' ∧ cLst (n + 1) (va_up f n q) p' J' D' ∧ (∀ i, i ≠ 14 → i ≠ 15 → J' i = J i) ∧ (∀ i, i ≠ 3 → p' i = p i) ∧ dP D D' ∧ am_sz D' ≤ am_sz D + 100 ∧ D'.length ≤ D.length + 1) := by
  have hq70 : q < D.length := am_get_lt hq
  have cn : (nI n).toNatClampNeg = n := nI_clamp (by omega)
  obtain ⟨h1, h48, h2⟩ := id h
  -- the end of add1, over a row that has room
  have fin : ∀ (p1 : Nat → Nat) (D1 : List am_C) (j cap : Nat) (ff : Nat → Option Nat), p1 3 = j + 70 → am_get D1 j = some (.inl (4, (cap, .inr (.inr (.inr (.inr ff)))))) → n < cap → 10 ≤ cap → cap ≤ 100 → (∀ i, i < n → ff i = some (f i + 70)) → (∀ i, i < n → ∃ fs, am_get D1 (f i) = some (.inr (9, fs))) → am_get D1 q = some (.inr (9, fs)) → (∀ i, i ≠ 3 → p1 i = p i) → dP D D1 → am_sz D1 ≤ am_sz D + 100 → D1.length ≤ D.length + 1 →
      Go m_AL_add1 11 [some (.ref 35), some (.ref (q + 70)), some (.ref (j + 70)), some (.int (nI n))] [] (hC L xs (va_up J 14 (J 14 + 1)) N G U p1 M D1) (fun r h' => r = none ∧ ∃ J' p' D', h' = hC L xs J' N G U p' M D' ∧ cLst (n + 1) (va_up f n q) p' J' D' ∧ (∀ i, i ≠ 14 → i ≠ 15 → J' i = J i) ∧ (∀ i, i ≠ 3 → p' i = p i) ∧ dP D D' ∧ am_sz D' ≤ am_sz D + 100 ∧ D'.length ≤ D.length + 1) := by
    intro p1 D1 j cap ff e1 e2 e3 e4 e5 e6 e7 e8 e9 e10 e11 e12
    iterate 3 refine go_s rfl rfl rfl trivial ?_
    refine go_s rfl rfl (s_asP (h := hC L xs (va_up J 14 (J 14 + 1)) N G U p1 M D1) (r := j + 70) (v := q + 70) e2 (by omega) e8 (by omega)) (vp_in_nI (by omega) (by omega)) ?_
    rw [cn]
    change Go m_AL_add1 15 _ _ (hC L xs (va_up J 14 (J 14 + 1)) N G U p1 M (am_set D1 j (.inl (4, (cap, .inr (.inr (.inr (.inr (va_up ff n (some (q + 70))))))))))) _
    iterate 4 refine go_s rfl rfl rfl trivial ?_
    rw [nI_1]
    iterate 1 refine go_s rfl rfl rfl trivial ?_
    have hdp := dP.set e2 (.inl (4, (cap, .inr (.inr (.inr (.inr (va_up ff n (some (q + 70)))))))))
    refine go_r rfl rfl rfl trivial ⟨rfl, va_up (va_up J 14 (J 14 + 1)) 15 (nI (n + 1)), p1, am_set D1 j (.inl (4, (cap, .inr (.inr (.inr (.inr (va_up ff n (some (q + 70))))))))), rfl, ⟨va_up_self _ _ _, by omega, Or.inr ⟨j, cap, _, e1, get_set_eq e2 _, by omega, e4, e5, fun i hi => ?_, fun i hi => ?_⟩⟩, fun i a b => (va_up_ne _ _ b).trans (va_up_ne _ _ a), e9, e10.tr hdp, ?_, ?_⟩
    · by_cases e : i = n
      · subst e; rw [va_up_self, va_up_self]
      · rw [va_up_ne _ _ e, va_up_ne _ _ e]; exact e6 i (by omega)
    · by_cases e : i = n
      · subst e
        rw [va_up_self]
        exact ⟨fs, hdp.part e8⟩
      · rw [va_up_ne _ _ e]
        obtain ⟨fs', q'⟩ := e7 i (by omega)
        exact ⟨fs', hdp.part q'⟩
    · rw [am_sz_set (by exact rfl) D1 j e2]; exact e11
    · rw [am_len_set]; exact e12
  have add1 : Do m_AL_add1 [.ref 35, .ref (q + 70), .ref (p 3), .int (nI n)] (hC L xs (va_up J 14 (J 14 + 1)) N G U p M D) (fun r h' => r = none ∧ ∃ J' p' D', h' = hC L xs J' N G U p' M D' ∧ cLst (n + 1) (va_up f n q) p' J' D' ∧ (∀ i, i ≠ 14 → i ≠ 15 → J' i = J i) ∧ (∀ i, i ≠ 3 → p' i = p i) ∧ dP D D' ∧ am_sz D' ≤ am_sz D + 100 ∧ D'.length ≤ D.length + 1) := by
    have h' : cLst n f p (va_up J 14 (J 14 + 1)) D := ⟨(va_up_ne _ _ (by decide)).trans h1, h48, h2⟩
    have parts : ∀ (c : am_C) (i : Nat), i < n → ∃ fs, am_get (D ++ [c]) (f i) = some (.inr (9, fs)) := by
      intro c i hi
      rcases h2 with ⟨-, e⟩ | ⟨j, cap, ff, e1, e2, e3, e4, e5, e6, e7⟩
      · omega
      · obtain ⟨fs', g⟩ := e7 i hi
        exact ⟨fs', by rw [am_get_push _ _ (am_get_lt g)]; exact g⟩
    have grow : (p 3 = 0 ∨ ∃ j y, p 3 = j + 70 ∧ am_get D j = some (.inl (4, (n, y)))) → ∀ X2, Go m_AL_add1 6 [some (.ref 35), some (.ref (q + 70)), X2, some (.int (nI n))] [] (hC L xs (va_up J 14 (J 14 + 1)) N G U p M D) (fun r h' => r = none ∧ ∃ J' p' D', h' = hC L xs J' N G U p' M D' ∧ cLst (n + 1) (va_up f n q) p' J' D' ∧ (∀ i, i ≠ 14 → i ≠ 15 → J' i = J i) ∧ (∀ i, i ≠ 3 → p' i = p i) ∧ dP D D' ∧ am_sz D' ≤ am_sz D + 100 ∧ D'.length ≤ D.length + 1) := by
      intro hf X2
      have g2 : Do m_AL_grow2 [.ref 35] (hC L xs (va_up J 14 (J 14 + 1)) N G U p M D) (fun r h' => r = some (.ref (D.length + 70)) ∧ ∃ cap ff, h' = hC L xs (va_up J 14 (J 14 + 1)) N G U (va_up p 3 (D.length + 70)) M (D ++ [.inl (4, (cap, .inr (.inr (.inr (.inr ff)))))]) ∧ n < cap ∧ 10 ≤ cap ∧ cap ≤ 100 ∧ ∀ i, i < n → ff i = some (f i + 70)) := by
        iterate 3 refine go_s rfl rfl rfl trivial ?_
        rw [show va_up J 14 (J 14 + 1) 15 = nI n from h'.1]
        iterate 2 refine go_s rfl rfl rfl trivial ?_
        rw [nI_1]
        refine go_c rfl rfl rfl (c_grow1 h' hn hf) ?_
        rintro r h3 ⟨rfl, hh⟩
        exact go_r rfl rfl rfl trivial ⟨rfl, hh⟩
      iterate 1 refine go_s rfl rfl rfl trivial ?_
      refine go_c rfl rfl rfl g2 ?_
      rintro r h3 ⟨rfl, cap, ff, rfl, q1, q2, q3, q4⟩
      iterate 1 refine go_s rfl rfl rfl trivial ?_
      refine fin (va_up p 3 (D.length + 70)) (D ++ [.inl (4, (cap, .inr (.inr (.inr (.inr ff)))))]) D.length cap ff (va_up_self _ _ _) (get_push _ _) q1 q2 q3 q4 (parts _) (by rw [am_get_push _ _ hq70]; exact hq) (fun i hi => va_up_ne _ _ hi) (dP.push D _) ?_ ?_
      · rw [am_sz_push]
        show am_sz D + cap ≤ am_sz D + 100
        omega
      · rw [List.length_append]
        exact Nat.le_refl _
    rcases h2 with ⟨e1, e2⟩ | ⟨j, cap, ff, e1, e2, e3, e4, e5, e6, e7⟩
    · subst e2
      rw [e1]
      iterate 4 refine go_s rfl rfl rfl trivial ?_
      refine go_if (fun hc => absurd rfl hc) (fun _ => ?_)
      exact grow (Or.inl e1) _
    · rw [e1]
      have hr : am_get (hC L xs (va_up J 14 (J 14 + 1)) N G U p M D) (j + 70) = some (.inl (4, (cap, .inr (.inr (.inr (.inr ff)))))) := e2
      iterate 2 refine go_s rfl rfl rfl trivial ?_
      refine go_s rfl rfl (s_ar hr (by decide)) trivial ?_
      iterate 1 refine go_s rfl rfl rfl trivial ?_
      refine go_if (fun hc => ?_) (fun hc => ?_)
      · have hne : n ≠ cap := fun g => hc (by rw [g])
        exact fin p D j cap ff e1 e2 (by omega) e4 e5 e6 e7 hq (fun _ _ => rfl) (dP.rf D) (by omega) (by omega)
      · have he : n = cap := nI_inj (by omega) (by omega) (Classical.not_not.mp hc)
        subst he
        exact grow (Or.inr ⟨j, _, e1, e2⟩) _
  iterate 6 refine go_s rfl rfl rfl trivial ?_
  change Go m_AL_add2 10 _ _ (hC L xs (va_up J 14 (J 14 + 1)) N G U p M D) _
  iterate 6 refine go_s rfl rfl rfl trivial ?_
  change Go m_AL_add2 20 _ [.int (va_up J 14 (J 14 + 1) 15), .ref (p 3), .ref (q + 70), .ref 35] _ _
  rw [va_up_ne _ _ (show (15 : Nat) ≠ 14 by decide), h1]
  refine go_c rfl rfl rfl add1 ?_
  rintro r h3 ⟨rfl, J', p', D', rfl, k1, k2, k3, k4, k5, k6⟩
  iterate 1 refine go_s rfl rfl rfl trivial ?_
  exact go_r rfl rfl rfl (Or.inr rfl) ⟨rfl, J', p', D', rfl, k1, k2, k3, k4, k5, k6⟩
end LISTS
