/-! ===== the class's languages: rows that grow ===== -/
def srow (G : Nat → Nat → Int64) (D : List am_C) (a l cap : Nat) (fs : Nat → Int64) : Prop := (a = 16 + 4 * l ∧ cap = 32 ∧ fs = G (7 + l)) ∨ ∃ j, a = j + 70 ∧ am_get D j = some (.inl (3, (cap, .inr (.inl fs))))
def cpk (c : Nat) : Prop := ∃ k, k ≤ 6 ∧ c = 32 * 2 ^ k
theorem cpk.dbl {c : Nat} (h : cpk c) (hc : c < 2048) : cpk (2 * c) ∧ 2 * c ≤ 2048 := by
  obtain ⟨k, hk, rfl⟩ := h
  have h6 : k ≠ 6 := fun q => by subst q; exact absurd hc (by decide)
  have hp : 2 ^ (k + 1) ≤ 2 ^ 6 := Nat.pow_le_pow_right (by decide) (by omega)
  have h64 : (2 : Nat) ^ 6 = 64 := rfl
  rw [Nat.pow_succ] at hp
  exact ⟨⟨k + 1, by omega, by rw [Nat.pow_succ]; omega⟩, by omega⟩
theorem cpk.ge {c : Nat} (h : cpk c) : 32 ≤ c := by
  obtain ⟨k, hk, rfl⟩ := h
  have : 0 < 2 ^ k := Nat.pow_pos (by decide)
  omega
/-- cp: how many places the rows of stop words have -/
def cN (N : tx_N) (J : Nat → Int32) (G : Nat → Nat → Int64) (p : Nat → Nat) (D : List am_C) (cp : Nat → Nat) : Prop := (∀ l, l < 3 → J (2 + l) = nI (N.2 l).length ∧ J (5 + l) = nI (N.1 l).length ∧ ∃ fs, srow G D (p l) l (cp l) fs ∧ lgd (N.1 l) (N.2 l) (cp l) (G (1 + l)) (G (4 + l)) fs) ∧ (∀ l l', l < 3 → l' < 3 → l ≠ l' → p l ≠ p l') ∧ ∀ l, l < 3 → cpk (cp l)
/-- what isn't a row of longs stays -/
def dK (D D' : List am_C) : Prop := ∀ j c, am_get D j = some c → (∀ x, c ≠ .inl (3, x)) → am_get D' j = some c
theorem dK.rf (D : List am_C) : dK D D := fun _ _ h _ => h
theorem dK.tr {D D1 D2 : List am_C} (h1 : dK D D1) (h2 : dK D1 D2) : dK D D2 := fun j c h q => h2 j c (h1 j c h q) q
theorem dK.set {D : List am_C} {j : Nat} {y : Nat × ((Nat → Int32) ⊕ ((Nat → Int64) ⊕ ((Nat → UInt32) ⊕ ((Nat → UInt64) ⊕ (Nat → Option Nat)))))} (h : am_get D j = some (.inl (3, y))) (c : am_C) : dK D (am_set D j c) := by
  intro j' c' h' q
  by_cases e : j' = j
  · subst e
    rw [h] at h'
    cases h'
    exact absurd rfl (q y)
  · rw [am_get_set_ne _ _ (fun g => e g.symm)]
    exact h'
theorem dK.push (D : List am_C) (c : am_C) : dK D (D ++ [c]) := fun j c' h _ => by rw [am_get_push _ _ (am_get_lt h)]; exact h
theorem get_set_eq {D : List am_C} {j : Nat} {c : am_C} (h : am_get D j = some c) (c' : am_C) : am_get (am_set D j c') j = some c' := by
  have := am_get_lt h
  rw [am_get_eq, am_set_eq, List.getElem?_set_self this]
theorem get_push (D : List am_C) (c : am_C) : am_get (D ++ [c]) D.length = some c := by
  rw [am_get_eq, List.getElem?_append_right (Nat.le_refl _)]
  simp
section GROW
variable {L : Nat} {xs : Nat → Int32} {J : Nat → Int32} {N : Nat → Nat → Int32} {G : Nat → Nat → Int64} {U : Int64} {p : Nat → Nat} {M : Nat → am_C} {D : List am_C}
theorem srow.get {a l cap : Nat} {fs : Nat → Int64} (hl : l < 3) (h : srow G D a l cap fs) : am_get (hC L xs J N G U p M D) a = some (.inl (3, (cap, .inr (.inl fs)))) := by
  rcases h with ⟨e1, e2, e3⟩ | ⟨j, e1, e2⟩
  · rw [e1, e2, e3]
    rcases (by omega : l = 0 ∨ l = 1 ∨ l = 2) with rfl | rfl | rfl <;> rfl
  · rw [e1]
    exact e2
theorem cN.pos {Nn : tx_N} {cp : Nat → Nat} (h : cN Nn J G p D cp) {l : Nat} (hl : l < 3) : 32 ≤ cp l := (h.2.2 l hl).ge
theorem cN.q {Nn : tx_N} {cp : Nat → Nat} (h : cN Nn J G p D cp) {l : Nat} (hl : l < 3) : lgq (hC L xs J N G U p M D) (13 + 4 * l) l (Nn.1 l) (Nn.2 l) := by
  obtain ⟨h1, h2, fs, h3, h4⟩ := h.1 l hl
  refine ⟨by omega, 14 + 4 * l, 15 + 4 * l, p l, cp l, G (1 + l), G (4 + l), fs, ⟨?_, ?_, ?_, h3.get hl⟩, h4⟩
  · rw [← h1, ← h2]
    rcases (by omega : l = 0 ∨ l = 1 ∨ l = 2) with rfl | rfl | rfl <;> rfl
  · rcases (by omega : l = 0 ∨ l = 1 ∨ l = 2) with rfl | rfl | rfl <;> rfl
  · rcases (by omega : l = 0 ∨ l = 1 ∨ l = 2) with rfl | rfl | rfl <;> rfl
theorem cN.keep {Nn : tx_N} {J' : Nat → Int32} {G' : Nat → Nat → Int64} {p' : Nat → Nat} {D' : List am_C} {cp : Nat → Nat} (h : cN Nn J G p D cp) (hJ : ∀ i, 2 ≤ i → i ≤ 7 → J' i = J i) (hG : ∀ i, 1 ≤ i → i ≤ 9 → G' i = G i) (hp : ∀ i, i < 3 → p' i = p i) (hD : ∀ j y, am_get D j = some (.inl (3, y)) → am_get D' j = some (.inl (3, y))) : cN Nn J' G' p' D' cp := by
  refine ⟨fun l hl => ?_, fun l l' h1 h2 h3 => by rw [hp l h1, hp l' h2]; exact h.2.1 l l' h1 h2 h3, h.2.2⟩
  obtain ⟨h1, h2, fs, h3, h4⟩ := h.1 l hl
  refine ⟨by rw [hJ _ (by omega) (by omega)]; exact h1, by rw [hJ _ (by omega) (by omega)]; exact h2, fs, ?_, by rw [hG (1 + l) (by omega) (by omega), hG (4 + l) (by omega) (by omega)]; exact h4⟩
  rw [hp l hl]
  rcases h3 with ⟨e1, e2, e3⟩ | ⟨j, e1, e2⟩
  · exact Or.inl ⟨e1, e2, by rw [hG (7 + l) (by omega) (by omega)]; exact e3⟩
  · exact Or.inr ⟨j, e1, hD j _ e2⟩
theorem cN.eok {Nn : tx_N} {cp : Nat → Nat} (h : cN Nn J G p D cp) : eok (nE Nn) := by
  intro l hl w u hw hu
  obtain ⟨h1, h2, fs, h3, h4⟩ := h.1 l hl
  rw [nE] at hu
  by_cases q : w ∈ Nn.1 l
  · rw [ifp_t q] at hu; cases hu
  · rw [ifp_f q] at hu
    cases hu
    exact stemF_ok _ _ hw h4.2.2.2.2.2.2
theorem cN_add {Nn : tx_N} {cp : Nat → Nat} {J' : Nat → Int32} {G' : Nat → Nat → Int64} {D' : List am_C} {l : Nat} {w : List Nat} {fs : Nat → Int64} (h : cN Nn J G p D cp) (hl : l < 3) (hlt : (Nn.1 l).length < cp l) (hw : wok w) (hJ : J' (5 + l) = nI ((Nn.1 l).length + 1)) (hJ' : ∀ i, i ≠ 5 + l → J' i = J i) (hG : ∀ i, i < 7 → G' i = G i) (hd : lgd (Nn.1 l) (Nn.2 l) (cp l) (G (1 + l)) (G (4 + l)) fs) (hrow : srow G' D' (p l) l (cp l) (vp_updL fs (Nn.1 l).length (lN (enc w)))) (ho : ∀ l', l' < 3 → l' ≠ l → ∀ fs', srow G D (p l') l' (cp l') fs' → srow G' D' (p l') l' (cp l') fs') : cN (va_up Nn.1 l (Nn.1 l ++ [w]), Nn.2) J' G' p D' cp := by
  refine ⟨fun l' hl' => ?_, h.2.1, h.2.2⟩
  show J' (2 + l') = nI (Nn.2 l').length ∧ J' (5 + l') = nI (va_up Nn.1 l (Nn.1 l ++ [w]) l').length ∧ ∃ fs, srow G' D' (p l') l' (cp l') fs ∧ lgd (va_up Nn.1 l (Nn.1 l ++ [w]) l') (Nn.2 l') (cp l') (G' (1 + l')) (G' (4 + l')) fs
  obtain ⟨h1, h2, fs', h3, h4⟩ := h.1 l' hl'
  rw [hJ' (2 + l') (by omega), hG (1 + l') (by omega), hG (4 + l') (by omega)]
  by_cases e : l' = l
  · subst e
    rw [va_up_self]
    obtain ⟨d1, d2, d3, d4, d5, d6, d7⟩ := hd
    refine ⟨h1, by rw [hJ, List.length_append]; rfl, _, hrow, d1, by rw [List.length_append, List.length_singleton]; omega, d3, d4, fun k hk => ?_, fun v hv => ?_, d7⟩
    · rw [List.length_append, List.length_singleton] at hk
      by_cases ek : k = (Nn.1 l').length
      · subst ek
        rw [pk_uLs, List.getD_eq_getElem?_getD, List.getElem?_append_right (Nat.le_refl _)]
        simp
      · rw [pk_uLn ek, List.getD_eq_getElem?_getD, List.getElem?_append_left (by omega), ← List.getD_eq_getElem?_getD]
        exact d5 k (by omega)
    · rcases List.mem_append.mp hv with g | g
      · exact d6 v g
      · rw [List.mem_singleton.mp g]; exact hw
  · rw [va_up_ne _ _ e, hJ' (5 + l') (by omega)]
    exact ⟨h1, h2, fs', ho l' hl' e fs' h3, h4⟩
theorem cN_grow {Nn : tx_N} {cp : Nat → Nat} {l m : Nat} {fs g : Nat → Int64} (h : cN Nn J G p D cp) (hl : l < 3) (hd : lgd (Nn.1 l) (Nn.2 l) (cp l) (G (1 + l)) (G (4 + l)) fs) (hm : cp l ≤ m) (hm2 : m ≤ 2048) (hm3 : cpk m) (hg : ∀ k, k < cp l → g k = fs k) : cN Nn J G (va_up p l (D.length + 70)) (D ++ [.inl (3, (m, .inr (.inl g)))]) (va_up cp l m) := by
  have old : ∀ l', l' < 3 → p l' ≠ D.length + 70 := by
    intro l' hl' q
    obtain ⟨h1, h2, fs', h3, h4⟩ := h.1 l' hl'
    rcases h3 with ⟨e1, e2, e3⟩ | ⟨j, e1, e2⟩
    · omega
    · have := am_get_lt e2
      omega
  refine ⟨fun l' hl' => ?_, fun l1 l2 h1 h2 h3 => ?_, fun l' hl' => ?_⟩
  · obtain ⟨h1, h2, fs', h3, h4⟩ := h.1 l' hl'
    refine ⟨h1, h2, ?_⟩
    by_cases e : l' = l
    · subst e
      rw [va_up_self, va_up_self]
      obtain ⟨d1, d2, d3, d4, d5, d6, d7⟩ := hd
      exact ⟨g, Or.inr ⟨D.length, rfl, get_push _ _⟩, d1, by omega, hm2, d4, fun k hk => by rw [hg k (by omega)]; exact d5 k hk, d6, d7⟩
    · rw [va_up_ne _ _ e, va_up_ne _ _ e]
      refine ⟨fs', ?_, h4⟩
      rcases h3 with h3 | ⟨j, e1, e2⟩
      · exact Or.inl h3
      · exact Or.inr ⟨j, e1, by rw [am_get_push _ _ (am_get_lt e2)]; exact e2⟩
  · by_cases e1 : l1 = l
    · subst e1
      rw [va_up_self, va_up_ne _ _ (fun q => h3 q.symm)]
      exact fun q => old l2 h2 q.symm
    · rw [va_up_ne _ _ e1]
      by_cases e2 : l2 = l
      · subst e2
        rw [va_up_self]
        exact old l1 h1
      · rw [va_up_ne _ _ e2]
        exact h.2.1 l1 l2 h1 h2 h3
  · by_cases e : l' = l
    · subst e
      rw [va_up_self]
      exact hm3
    · rw [va_up_ne _ _ e]
      exact h.2.2 l' hl'
theorem s_cpyL {df : Nat → List Value} {ft : Nat → Nat → FieldType} {q nx a : Nat} {k : Int32} {l : Int64} {ls : List (Option Value)} {st : List Value} {h : List am_C} {r0 r1 n0 n1 : Nat} {n dp sp : Int32} {f g : Nat → Int64} (hr0 : am_get h r0 = some (.inl (3, (n0, .inr (.inl f))))) (hr1 : am_get h r1 = some (.inl (3, (n1, .inr (.inl g))))) (hst : am_room st = true) : am_s df ft (.invokestatic q) nx a 6 k l ls (.int n :: .int dp :: .ref r1 :: .int sp :: .ref r0 :: st) h = some (¬ sp < 0 ∧ ¬ dp < 0 ∧ ¬ n < 0 ∧ sp.toNatClampNeg + n.toNatClampNeg ≤ n0 ∧ dp.toNatClampNeg + n.toNatClampNeg ≤ n1, nx, ls, st, am_set h r1 (.inl (3, (n1, .inr (.inl (va_cpy f g sp.toNatClampNeg dp.toNatClampNeg n.toNatClampNeg)))))) := by
  show am_cpy nx a 6 k l ls (.int n :: .int dp :: .ref r1 :: .int sp :: .ref r0 :: st) h = _
  simp only [am_cpy, hst, hr0, hr1]
theorem set_push (h : List am_C) (c c' : am_C) : am_set (h ++ [c]) h.length c' = h ++ [c'] := by
  rw [am_set_eq, List.set_append_right _ _ (Nat.le_refl _)]
  simp
theorem c_copyOf3 {h : List am_C} {a n m : Nat} {f : Nat → Int64} (hr : am_get h a = some (.inl (3, (n, .inr (.inl f))))) (hne : n ≠ m) (hn : n ≤ 4096) (hm : m ≤ 4096) : Do m_Ar_copyOf3 [.ref a, .int (nI m)] h (fun r h' => r = some (.ref h.length) ∧ ∃ g, h' = h ++ [.inl (3, (m, .inr (.inl g)))] ∧ ∀ k, k < min n m → g k = f k) := by
  have cm : (nI m).toNatClampNeg = m := nI_clamp (by omega)
  iterate 2 refine go_s rfl rfl rfl trivial ?_
  refine go_s rfl rfl (s_ar hr (by decide)) trivial ?_
  iterate 1 refine go_s rfl rfl rfl trivial ?_
  refine go_if (fun _ => ?_) (fun hc => absurd (nI_inj (by omega) (by omega) (Classical.not_not.mp hc)) (fun q => hne q.symm))
  iterate 1 refine go_s rfl rfl rfl trivial ?_
  refine go_s rfl rfl rfl ?_ ?_
  · exact ⟨nI_pos (by omega), by rw [cm]; omega⟩
  rw [cm]
  have hr2 : am_get (h ++ [am_zero 3 m]) a = some (.inl (3, (n, .inr (.inl f)))) := by
    rw [am_get_push _ _ (am_get_lt hr)]
    exact hr
  iterate 6 refine go_s rfl rfl rfl trivial ?_
  refine go_s rfl rfl (s_ar hr2 (by decide)) trivial ?_
  iterate 2 refine go_s rfl rfl rfl trivial ?_
  rw [minI (by omega) (by omega)]
  have c0 : (nI (min n m)).toNatClampNeg = min n m := nI_clamp (by omega)
  refine go_s rfl rfl (s_cpyL hr2 (r1 := h.length) (n1 := m) (g := fun _ => 0) (get_push h (am_zero 3 m)) rfl) ?_ ?_
  · rw [c0]
    refine ⟨by decide, by decide, nI_pos (by omega), ?_, ?_⟩
    · show 0 + min n m ≤ n
      omega
    · show 0 + min n m ≤ m
      omega
  rw [set_push, c0]
  iterate 1 refine go_s rfl rfl rfl trivial ?_
  refine go_r rfl rfl rfl trivial ⟨rfl, _, rfl, fun k hk => ?_⟩
  exact (pk_cpy_in (Nat.zero_le _) (by show k < 0 + min n m; omega)).trans (by show f (0 + (k - 0)) = f k; congr 1; omega)
def asPost (l : Nat) (Nn : tx_N) (w : List Nat) (L : Nat) (xs : Nat → Int32) (J : Nat → Int32) (N : Nat → Nat → Int32) (G : Nat → Nat → Int64) (U : Int64) (p : Nat → Nat) (M : Nat → am_C) (D : List am_C) (cp : Nat → Nat) (r : Option Value) (h' : List am_C) : Prop := (w ∈ Nn.1 l ∧ r = some (.int 0) ∧ h' = hC L xs J N G U p M D) ∨ (¬ w ∈ Nn.1 l ∧ r = some (.int 1) ∧ ∃ J' G' p' D' cp', h' = hC L xs J' N G' U p' M D' ∧ cN (va_up Nn.1 l (Nn.1 l ++ [w]), Nn.2) J' G' p' D' cp' ∧ (∀ i, i ≠ 5 + l → J' i = J i) ∧ (∀ i, i < 7 ∨ 9 < i → G' i = G i) ∧ p' 3 = p 3 ∧ dK D D' ∧ am_sz D' + 2 * (cp 0 + cp 1 + cp 2) ≤ am_sz D + 2 * (cp' 0 + cp' 1 + cp' 2) ∧ D'.length + (cp 0 + cp 1 + cp 2) ≤ D.length + (cp' 0 + cp' 1 + cp' 2))

theorem c_addRule0 {n : Nat} (h1 : J 2 = nI n) (hn : n ≤ 8) (x y : Int64) : Do m_La_addRule [.ref 13, .long x, .long y] (hC L xs J N G U p M D) (fun r h' => (n = 8 ∧ r = some (.int 0) ∧ h' = hC L xs J N G U p M D) ∨ (n < 8 ∧ r = some (.int 1) ∧ h' = hC L xs (va_up J 2 (nI (n + 1))) N (va_up (va_up G 1 (vp_updL (G 1) n x)) 4 (vp_updL (G 4) n y)) U p M D)) := by
  have cn : (nI n).toNatClampNeg = n := nI_clamp (by omega)
  iterate 2 refine go_s rfl rfl rfl trivial ?_
  rw [h1]
  iterate 2 refine go_s rfl rfl rfl trivial ?_
  refine go_if (fun hc => ?_) (fun hc => ?_)
  · have hlt := (nI_ltI (a := n) (b := 8) (by omega) (by omega)).mp hc
    iterate 4 refine go_s rfl rfl rfl trivial ?_
    rw [h1]
    iterate 1 refine go_s rfl rfl rfl trivial ?_
    refine go_s rfl rfl rfl ?_ ?_
    · exact vp_in_nI (by omega) (by omega)
    simp only [cn]
    iterate 4 refine go_s rfl rfl rfl trivial ?_
    rw [h1]
    iterate 1 refine go_s rfl rfl rfl trivial ?_
    refine go_s rfl rfl rfl ?_ ?_
    · exact vp_in_nI (by omega) (by omega)
    simp only [cn]
    iterate 3 refine go_s rfl rfl rfl trivial ?_
    rw [h1]
    iterate 2 refine go_s rfl rfl rfl trivial ?_
    rw [nI_1]
    iterate 2 refine go_s rfl rfl rfl trivial ?_
    exact go_r rfl rfl rfl (Or.inr rfl) (Or.inr ⟨hlt, rfl, rfl⟩)
  · have hge : ¬ n < 8 := fun q => hc ((nI_ltI (a := n) (b := 8) (by omega) (by omega)).mpr q)
    iterate 1 refine go_s rfl rfl rfl trivial ?_
    exact go_r rfl rfl rfl (Or.inl rfl) (Or.inl ⟨by omega, rfl, rfl⟩)
theorem c_asT0 {Nn : tx_N} {cp : Nat → Nat} (hN : cN Nn J G p D cp) {w : List Nat} (hw : wok w) (hlt : (Nn.1 0).length < cp 0) : Go m_La_addStop 65 [some (.ref 13), some (.long (lN (enc w))), none] [] (hC L xs J N G U p M D) (fun r h' => r = some (.int 1) ∧ ∃ J' G' D', h' = hC L xs J' N G' U p M D' ∧ cN (va_up Nn.1 0 (Nn.1 0 ++ [w]), Nn.2) J' G' p D' cp ∧ (∀ i, i ≠ 5 → J' i = J i) ∧ (∀ i, i < 7 ∨ 9 < i → G' i = G i) ∧ dK D D' ∧ am_sz D' = am_sz D ∧ D'.length = D.length) := by
  obtain ⟨n1, n2, fs, hr, hd⟩ := hN.1 0 (by decide)
  have n2 : J 5 = nI (Nn.1 0).length := n2
  have c2048 := hd.2.2.1
  have cn : (nI (Nn.1 0).length).toNatClampNeg = (Nn.1 0).length := nI_clamp (by omega)
  rcases id hr with ⟨e1, e2, e3⟩ | ⟨j, e1, e2⟩
  · have e1 : p 0 = 16 := e1
    subst e3
    iterate 2 refine go_s rfl rfl rfl trivial ?_
    rw [e1]
    iterate 2 refine go_s rfl rfl rfl trivial ?_
    rw [n2]
    iterate 1 refine go_s rfl rfl rfl trivial ?_
    refine go_s rfl rfl rfl ?_ ?_
    · exact vp_in_nI (by omega) (by omega)
    simp only [cn]
    iterate 3 refine go_s rfl rfl rfl trivial ?_
    rw [n2]
    iterate 2 refine go_s rfl rfl rfl trivial ?_
    rw [nI_1]
    iterate 2 refine go_s rfl rfl rfl trivial ?_
    refine go_r rfl rfl rfl (Or.inr rfl) ⟨rfl, va_up J 5 (nI ((Nn.1 0).length + 1)), va_up G 7 (vp_updL (G 7) (Nn.1 0).length (lN (enc w))), D, rfl, ?_, fun i hi => va_up_ne _ _ hi, fun i hi => va_up_ne _ _ (by omega), dK.rf D, rfl, rfl⟩
    refine cN_add hN (by decide) hlt hw (va_up_self _ _ _) (fun i hi => va_up_ne _ _ hi) (fun i hi => va_up_ne _ _ (by omega)) hd (Or.inl ⟨e1, e2, ?_⟩) (fun l' hl' hne fs' hr' => ?_)
    · exact (va_up_self _ _ _).symm
    · rcases hr' with ⟨f1, f2, f3⟩ | hr'
      · exact Or.inl ⟨f1, f2, by rw [f3]; exact (va_up_ne _ _ (by omega)).symm⟩
      · exact Or.inr hr'
  · have e1 : p 0 = j + 70 := e1
    iterate 2 refine go_s rfl rfl rfl trivial ?_
    rw [e1]
    iterate 2 refine go_s rfl rfl rfl trivial ?_
    rw [n2]
    iterate 1 refine go_s rfl rfl rfl trivial ?_
    refine go_s rfl rfl (s_ls (h := hC L xs J N G U p M D) (r := j + 70) e2) (vp_in_nI hlt (by omega)) ?_
    rw [cn]
    change Go m_La_addStop 75 _ _ (hC L xs J N G U p M (am_set D j (.inl (3, (cp 0, .inr (.inl (vp_updL fs (Nn.1 0).length (lN (enc w))))))))) _
    iterate 3 refine go_s rfl rfl rfl trivial ?_
    rw [n2]
    iterate 2 refine go_s rfl rfl rfl trivial ?_
    rw [nI_1]
    iterate 2 refine go_s rfl rfl rfl trivial ?_
    refine go_r rfl rfl rfl (Or.inr rfl) ⟨rfl, va_up J 5 (nI ((Nn.1 0).length + 1)), G, am_set D j (.inl (3, (cp 0, .inr (.inl (vp_updL fs (Nn.1 0).length (lN (enc w))))))), rfl, ?_, fun i hi => va_up_ne _ _ hi, fun _ _ => rfl, dK.set e2 _, am_sz_set (by exact rfl) D j e2, am_len_set _ _ _⟩
    refine cN_add hN (by decide) hlt hw (va_up_self _ _ _) (fun i hi => va_up_ne _ _ hi) (fun _ _ => rfl) hd (Or.inr ⟨j, e1, get_set_eq e2 _⟩) (fun l' hl' hne fs' hr' => ?_)
    rcases hr' with hr' | ⟨j', f1, f2⟩
    · exact Or.inl hr'
    · refine Or.inr ⟨j', f1, ?_⟩
      rw [am_get_set_ne _ _ ?_]
      · exact f2
      · intro q
        refine hN.2.1 l' 0 hl' (by decide) hne ?_
        rw [f1, e1, q]
theorem c_addStop0 {Nn : tx_N} {cp : Nat → Nat} (hN : cN Nn J G p D cp) {w : List Nat} (hw : wok w) (hsz : (Nn.1 0).length < 2000) : Do m_La_addStop [.ref 13, .long (lN (enc w))] (hC L xs J N G U p M D) (asPost 0 Nn w L xs J N G U p M D cp) := by
  obtain ⟨n1, n2, fs, hr, hd⟩ := hN.1 0 (by decide)
  obtain ⟨-, q0⟩ := hN.q (L := L) (xs := xs) (N := N) (U := U) (M := M) (l := 0) (by decide)
  obtain ⟨eA, iA, sA, capA, feA, fiA, fsA, hoA, hdA⟩ := q0
  have n2 : J 5 = nI (Nn.1 0).length := n2
  have c2048 := hd.2.2.1
  have hle := hd.2.1
  have hrow : am_get (hC L xs J N G U p M D) (p 0) = some (.inl (3, (cp 0, .inr (.inl fs)))) := srow.get (by decide) hr
  iterate 2 refine go_s rfl rfl rfl trivial ?_
  refine go_c rfl rfl rfl (c_La_isStop (a := 13) (by decide) hoA hdA hw.o) ?_
  rintro r h1 ⟨rfl, rfl⟩
  iterate 1 refine go_s rfl rfl rfl trivial ?_
  refine go_if (fun hc => ?_) (fun hc => ?_)
  · have hn := b01_eq0.mp hc
    iterate 2 refine go_s rfl rfl rfl trivial ?_
    rw [n2]
    iterate 2 refine go_s rfl rfl rfl trivial ?_
    refine go_s rfl rfl (s_ar hrow (by decide)) trivial ?_
    iterate 1 refine go_s rfl rfl rfl trivial ?_
    refine go_if (fun hc1 => ?_) (fun hc1 => ?_)
    · have hlt := (nI_ltI (by omega) (by omega)).mp hc1
      iterate 2 refine go_s rfl rfl rfl trivial ?_
      rw [n2]
      iterate 2 refine go_s rfl rfl rfl trivial ?_
      refine go_s rfl rfl (s_ar hrow (by decide)) trivial ?_
      iterate 1 refine go_s rfl rfl rfl trivial ?_
      refine go_if (fun _ => ?_) (fun hc2 => absurd hc1 hc2)
      refine (c_asT0 (L := L) (xs := xs) (N := N) (U := U) (M := M) hN hw hlt).mono fun r h' g => ?_
      obtain ⟨g1, J', G', D', g2, g3, g4, g5, g6, g7, g8⟩ := g
      exact Or.inr ⟨hn, g1, J', G', p, D', cp, g2, g3, g4, g5, rfl, g6, by omega, by omega⟩
    · have heq : (Nn.1 0).length = cp 0 := by
        have : ¬ (Nn.1 0).length < cp 0 := fun q => hc1 ((nI_ltI (by omega) (by omega)).mpr q)
        omega
      iterate 2 refine go_s rfl rfl rfl trivial ?_
      refine go_s rfl rfl (s_ar hrow (by decide)) trivial ?_
      iterate 2 refine go_s rfl rfl rfl trivial ?_
      refine go_if (fun hc2 => absurd ((nI_leI (a := 2048) (b := cp 0) (by omega) (by omega)).mp hc2) (by omega)) (fun _ => ?_)
      iterate 6 refine go_s rfl rfl rfl trivial ?_
      refine go_s rfl rfl (s_ar hrow (by decide)) trivial ?_
      iterate 1 refine go_s rfl rfl rfl trivial ?_
      rw [show (2 : Int32) * nI (cp 0) = nI (2 * cp 0) by rw [show (2 : Int32) = nI 2 from rfl, pk_mul]]
      have hcp := cN.pos hN (l := 0) (by decide)
      refine go_c rfl rfl rfl (c_copyOf3 hrow (m := 2 * cp 0) (by omega) (by omega) (by omega)) ?_
      rintro r h1 ⟨rfl, g, rfl, hg⟩
      iterate 1 refine go_s rfl rfl rfl trivial ?_
      change Go m_La_addStop 51 _ _ (hC L xs J N G U (va_up p 0 (D.length + 70)) M (D ++ [.inl (3, (2 * cp 0, .inr (.inl g)))])) _
      have hk2 := (hN.2.2 0 (by decide)).dbl (by omega)
      have hN' := cN_grow hN (l := 0) (by decide) hd (m := 2 * cp 0) (g := g) (by omega) hk2.2 hk2.1 (fun k hk => hg k (by omega))
      have hrow' : am_get (hC L xs J N G U (va_up p 0 (D.length + 70)) M (D ++ [.inl (3, (2 * cp 0, .inr (.inl g)))])) (va_up p 0 (D.length + 70) 0) = some (.inl (3, (2 * cp 0, .inr (.inl g)))) := srow.get (l := 0) (G := G) (by decide) (Or.inr ⟨D.length, va_up_self _ _ _, get_push _ _⟩)
      iterate 2 refine go_s rfl rfl rfl trivial ?_
      rw [n2]
      iterate 2 refine go_s rfl rfl rfl trivial ?_
      change Go m_La_addStop 59 _ [.ref (va_up p 0 (D.length + 70) 0), .int (nI (Nn.1 0).length)] (hC L xs J N G U (va_up p 0 (D.length + 70)) M (D ++ [.inl (3, (2 * cp 0, .inr (.inl g)))])) _
      refine go_s rfl rfl (s_ar hrow' (by decide)) trivial ?_
      iterate 1 refine go_s rfl rfl rfl trivial ?_
      refine go_if (fun _ => ?_) (fun hc2 => absurd ((nI_ltI (a := (Nn.1 0).length) (b := 2 * cp 0) (by omega) (by omega)).mpr (by omega)) hc2)
      refine (c_asT0 (L := L) (xs := xs) (N := N) (U := U) (M := M) hN' hw (by rw [va_up_self]; omega)).mono fun r h' g => ?_
      obtain ⟨g1, J', G', D', g2, g3, g4, g5, g6, g7, g8⟩ := g
      refine Or.inr ⟨hn, g1, J', G', _, D', _, g2, g3, g4, g5, rfl, (dK.push D _).tr g6, ?_, ?_⟩
      · rw [g7, am_sz_push]
        show am_sz D + 2 * cp 0 + 2 * (cp 0 + cp 1 + cp 2) ≤ am_sz D + 2 * (va_up cp 0 (2 * cp 0) 0 + va_up cp 0 (2 * cp 0) 1 + va_up cp 0 (2 * cp 0) 2)
        rw [va_up_self, va_up_ne _ _ (by decide : (1 : Nat) ≠ 0), va_up_ne _ _ (by decide : (2 : Nat) ≠ 0)]
        omega
      · rw [g8, List.length_append]
        show D.length + 1 + (cp 0 + cp 1 + cp 2) ≤ D.length + (va_up cp 0 (2 * cp 0) 0 + va_up cp 0 (2 * cp 0) 1 + va_up cp 0 (2 * cp 0) 2)
        rw [va_up_self, va_up_ne _ _ (by decide : (1 : Nat) ≠ 0), va_up_ne _ _ (by decide : (2 : Nat) ≠ 0)]
        omega
  · have hn : w ∈ Nn.1 0 := Classical.not_not.mp fun q => hc (b01_f q)
    iterate 1 refine go_s rfl rfl rfl trivial ?_
    exact go_r rfl rfl rfl (Or.inl rfl) (Or.inl ⟨hn, rfl, rfl⟩)

theorem c_addRule1 {n : Nat} (h1 : J 3 = nI n) (hn : n ≤ 8) (x y : Int64) : Do m_La_addRule [.ref 17, .long x, .long y] (hC L xs J N G U p M D) (fun r h' => (n = 8 ∧ r = some (.int 0) ∧ h' = hC L xs J N G U p M D) ∨ (n < 8 ∧ r = some (.int 1) ∧ h' = hC L xs (va_up J 3 (nI (n + 1))) N (va_up (va_up G 2 (vp_updL (G 2) n x)) 5 (vp_updL (G 5) n y)) U p M D)) := by
  have cn : (nI n).toNatClampNeg = n := nI_clamp (by omega)
  iterate 2 refine go_s rfl rfl rfl trivial ?_
  rw [h1]
  iterate 2 refine go_s rfl rfl rfl trivial ?_
  refine go_if (fun hc => ?_) (fun hc => ?_)
  · have hlt := (nI_ltI (a := n) (b := 8) (by omega) (by omega)).mp hc
    iterate 4 refine go_s rfl rfl rfl trivial ?_
    rw [h1]
    iterate 1 refine go_s rfl rfl rfl trivial ?_
    refine go_s rfl rfl rfl ?_ ?_
    · exact vp_in_nI (by omega) (by omega)
    simp only [cn]
    iterate 4 refine go_s rfl rfl rfl trivial ?_
    rw [h1]
    iterate 1 refine go_s rfl rfl rfl trivial ?_
    refine go_s rfl rfl rfl ?_ ?_
    · exact vp_in_nI (by omega) (by omega)
    simp only [cn]
    iterate 3 refine go_s rfl rfl rfl trivial ?_
    rw [h1]
    iterate 2 refine go_s rfl rfl rfl trivial ?_
    rw [nI_1]
    iterate 2 refine go_s rfl rfl rfl trivial ?_
    exact go_r rfl rfl rfl (Or.inr rfl) (Or.inr ⟨hlt, rfl, rfl⟩)
  · have hge : ¬ n < 8 := fun q => hc ((nI_ltI (a := n) (b := 8) (by omega) (by omega)).mpr q)
    iterate 1 refine go_s rfl rfl rfl trivial ?_
    exact go_r rfl rfl rfl (Or.inl rfl) (Or.inl ⟨by omega, rfl, rfl⟩)
theorem c_asT1 {Nn : tx_N} {cp : Nat → Nat} (hN : cN Nn J G p D cp) {w : List Nat} (hw : wok w) (hlt : (Nn.1 1).length < cp 1) : Go m_La_addStop 65 [some (.ref 17), some (.long (lN (enc w))), none] [] (hC L xs J N G U p M D) (fun r h' => r = some (.int 1) ∧ ∃ J' G' D', h' = hC L xs J' N G' U p M D' ∧ cN (va_up Nn.1 1 (Nn.1 1 ++ [w]), Nn.2) J' G' p D' cp ∧ (∀ i, i ≠ 6 → J' i = J i) ∧ (∀ i, i < 7 ∨ 9 < i → G' i = G i) ∧ dK D D' ∧ am_sz D' = am_sz D ∧ D'.length = D.length) := by
  obtain ⟨n1, n2, fs, hr, hd⟩ := hN.1 1 (by decide)
  have n2 : J 6 = nI (Nn.1 1).length := n2
  have c2048 := hd.2.2.1
  have cn : (nI (Nn.1 1).length).toNatClampNeg = (Nn.1 1).length := nI_clamp (by omega)
  rcases id hr with ⟨e1, e2, e3⟩ | ⟨j, e1, e2⟩
  · have e1 : p 1 = 20 := e1
    subst e3
    iterate 2 refine go_s rfl rfl rfl trivial ?_
    rw [e1]
    iterate 2 refine go_s rfl rfl rfl trivial ?_
    rw [n2]
    iterate 1 refine go_s rfl rfl rfl trivial ?_
    refine go_s rfl rfl rfl ?_ ?_
    · exact vp_in_nI (by omega) (by omega)
    simp only [cn]
    iterate 3 refine go_s rfl rfl rfl trivial ?_
    rw [n2]
    iterate 2 refine go_s rfl rfl rfl trivial ?_
    rw [nI_1]
    iterate 2 refine go_s rfl rfl rfl trivial ?_
    refine go_r rfl rfl rfl (Or.inr rfl) ⟨rfl, va_up J 6 (nI ((Nn.1 1).length + 1)), va_up G 8 (vp_updL (G 8) (Nn.1 1).length (lN (enc w))), D, rfl, ?_, fun i hi => va_up_ne _ _ hi, fun i hi => va_up_ne _ _ (by omega), dK.rf D, rfl, rfl⟩
    refine cN_add hN (by decide) hlt hw (va_up_self _ _ _) (fun i hi => va_up_ne _ _ hi) (fun i hi => va_up_ne _ _ (by omega)) hd (Or.inl ⟨e1, e2, ?_⟩) (fun l' hl' hne fs' hr' => ?_)
    · exact (va_up_self _ _ _).symm
    · rcases hr' with ⟨f1, f2, f3⟩ | hr'
      · exact Or.inl ⟨f1, f2, by rw [f3]; exact (va_up_ne _ _ (by omega)).symm⟩
      · exact Or.inr hr'
  · have e1 : p 1 = j + 70 := e1
    iterate 2 refine go_s rfl rfl rfl trivial ?_
    rw [e1]
    iterate 2 refine go_s rfl rfl rfl trivial ?_
    rw [n2]
    iterate 1 refine go_s rfl rfl rfl trivial ?_
    refine go_s rfl rfl (s_ls (h := hC L xs J N G U p M D) (r := j + 70) e2) (vp_in_nI hlt (by omega)) ?_
    rw [cn]
    change Go m_La_addStop 75 _ _ (hC L xs J N G U p M (am_set D j (.inl (3, (cp 1, .inr (.inl (vp_updL fs (Nn.1 1).length (lN (enc w))))))))) _
    iterate 3 refine go_s rfl rfl rfl trivial ?_
    rw [n2]
    iterate 2 refine go_s rfl rfl rfl trivial ?_
    rw [nI_1]
    iterate 2 refine go_s rfl rfl rfl trivial ?_
    refine go_r rfl rfl rfl (Or.inr rfl) ⟨rfl, va_up J 6 (nI ((Nn.1 1).length + 1)), G, am_set D j (.inl (3, (cp 1, .inr (.inl (vp_updL fs (Nn.1 1).length (lN (enc w))))))), rfl, ?_, fun i hi => va_up_ne _ _ hi, fun _ _ => rfl, dK.set e2 _, am_sz_set (by exact rfl) D j e2, am_len_set _ _ _⟩
    refine cN_add hN (by decide) hlt hw (va_up_self _ _ _) (fun i hi => va_up_ne _ _ hi) (fun _ _ => rfl) hd (Or.inr ⟨j, e1, get_set_eq e2 _⟩) (fun l' hl' hne fs' hr' => ?_)
    rcases hr' with hr' | ⟨j', f1, f2⟩
    · exact Or.inl hr'
    · refine Or.inr ⟨j', f1, ?_⟩
      rw [am_get_set_ne _ _ ?_]
      · exact f2
      · intro q
        refine hN.2.1 l' 1 hl' (by decide) hne ?_
        rw [f1, e1, q]
theorem c_addStop1 {Nn : tx_N} {cp : Nat → Nat} (hN : cN Nn J G p D cp) {w : List Nat} (hw : wok w) (hsz : (Nn.1 1).length < 2000) : Do m_La_addStop [.ref 17, .long (lN (enc w))] (hC L xs J N G U p M D) (asPost 1 Nn w L xs J N G U p M D cp) := by
  obtain ⟨n1, n2, fs, hr, hd⟩ := hN.1 1 (by decide)
  obtain ⟨-, q0⟩ := hN.q (L := L) (xs := xs) (N := N) (U := U) (M := M) (l := 1) (by decide)
  obtain ⟨eA, iA, sA, capA, feA, fiA, fsA, hoA, hdA⟩ := q0
  have n2 : J 6 = nI (Nn.1 1).length := n2
  have c2048 := hd.2.2.1
  have hle := hd.2.1
  have hrow : am_get (hC L xs J N G U p M D) (p 1) = some (.inl (3, (cp 1, .inr (.inl fs)))) := srow.get (by decide) hr
  iterate 2 refine go_s rfl rfl rfl trivial ?_
  refine go_c rfl rfl rfl (c_La_isStop (a := 17) (by decide) hoA hdA hw.o) ?_
  rintro r h1 ⟨rfl, rfl⟩
  iterate 1 refine go_s rfl rfl rfl trivial ?_
  refine go_if (fun hc => ?_) (fun hc => ?_)
  · have hn := b01_eq0.mp hc
    iterate 2 refine go_s rfl rfl rfl trivial ?_
    rw [n2]
    iterate 2 refine go_s rfl rfl rfl trivial ?_
    refine go_s rfl rfl (s_ar hrow (by decide)) trivial ?_
    iterate 1 refine go_s rfl rfl rfl trivial ?_
    refine go_if (fun hc1 => ?_) (fun hc1 => ?_)
    · have hlt := (nI_ltI (by omega) (by omega)).mp hc1
      iterate 2 refine go_s rfl rfl rfl trivial ?_
      rw [n2]
      iterate 2 refine go_s rfl rfl rfl trivial ?_
      refine go_s rfl rfl (s_ar hrow (by decide)) trivial ?_
      iterate 1 refine go_s rfl rfl rfl trivial ?_
      refine go_if (fun _ => ?_) (fun hc2 => absurd hc1 hc2)
      refine (c_asT1 (L := L) (xs := xs) (N := N) (U := U) (M := M) hN hw hlt).mono fun r h' g => ?_
      obtain ⟨g1, J', G', D', g2, g3, g4, g5, g6, g7, g8⟩ := g
      exact Or.inr ⟨hn, g1, J', G', p, D', cp, g2, g3, g4, g5, rfl, g6, by omega, by omega⟩
    · have heq : (Nn.1 1).length = cp 1 := by
        have : ¬ (Nn.1 1).length < cp 1 := fun q => hc1 ((nI_ltI (by omega) (by omega)).mpr q)
        omega
      iterate 2 refine go_s rfl rfl rfl trivial ?_
      refine go_s rfl rfl (s_ar hrow (by decide)) trivial ?_
      iterate 2 refine go_s rfl rfl rfl trivial ?_
      refine go_if (fun hc2 => absurd ((nI_leI (a := 2048) (b := cp 1) (by omega) (by omega)).mp hc2) (by omega)) (fun _ => ?_)
      iterate 6 refine go_s rfl rfl rfl trivial ?_
      refine go_s rfl rfl (s_ar hrow (by decide)) trivial ?_
      iterate 1 refine go_s rfl rfl rfl trivial ?_
      rw [show (2 : Int32) * nI (cp 1) = nI (2 * cp 1) by rw [show (2 : Int32) = nI 2 from rfl, pk_mul]]
      have hcp := cN.pos hN (l := 1) (by decide)
      refine go_c rfl rfl rfl (c_copyOf3 hrow (m := 2 * cp 1) (by omega) (by omega) (by omega)) ?_
      rintro r h1 ⟨rfl, g, rfl, hg⟩
      iterate 1 refine go_s rfl rfl rfl trivial ?_
      change Go m_La_addStop 51 _ _ (hC L xs J N G U (va_up p 1 (D.length + 70)) M (D ++ [.inl (3, (2 * cp 1, .inr (.inl g)))])) _
      have hk2 := (hN.2.2 1 (by decide)).dbl (by omega)
      have hN' := cN_grow hN (l := 1) (by decide) hd (m := 2 * cp 1) (g := g) (by omega) hk2.2 hk2.1 (fun k hk => hg k (by omega))
      have hrow' : am_get (hC L xs J N G U (va_up p 1 (D.length + 70)) M (D ++ [.inl (3, (2 * cp 1, .inr (.inl g)))])) (va_up p 1 (D.length + 70) 1) = some (.inl (3, (2 * cp 1, .inr (.inl g)))) := srow.get (l := 1) (G := G) (by decide) (Or.inr ⟨D.length, va_up_self _ _ _, get_push _ _⟩)
      iterate 2 refine go_s rfl rfl rfl trivial ?_
      rw [n2]
      iterate 2 refine go_s rfl rfl rfl trivial ?_
      change Go m_La_addStop 59 _ [.ref (va_up p 1 (D.length + 70) 1), .int (nI (Nn.1 1).length)] (hC L xs J N G U (va_up p 1 (D.length + 70)) M (D ++ [.inl (3, (2 * cp 1, .inr (.inl g)))])) _
      refine go_s rfl rfl (s_ar hrow' (by decide)) trivial ?_
      iterate 1 refine go_s rfl rfl rfl trivial ?_
      refine go_if (fun _ => ?_) (fun hc2 => absurd ((nI_ltI (a := (Nn.1 1).length) (b := 2 * cp 1) (by omega) (by omega)).mpr (by omega)) hc2)
      refine (c_asT1 (L := L) (xs := xs) (N := N) (U := U) (M := M) hN' hw (by rw [va_up_self]; omega)).mono fun r h' g => ?_
      obtain ⟨g1, J', G', D', g2, g3, g4, g5, g6, g7, g8⟩ := g
      refine Or.inr ⟨hn, g1, J', G', _, D', _, g2, g3, g4, g5, rfl, (dK.push D _).tr g6, ?_, ?_⟩
      · rw [g7, am_sz_push]
        show am_sz D + 2 * cp 1 + 2 * (cp 0 + cp 1 + cp 2) ≤ am_sz D + 2 * (va_up cp 1 (2 * cp 1) 0 + va_up cp 1 (2 * cp 1) 1 + va_up cp 1 (2 * cp 1) 2)
        rw [va_up_self, va_up_ne _ _ (by decide : (0 : Nat) ≠ 1), va_up_ne _ _ (by decide : (2 : Nat) ≠ 1)]
        omega
      · rw [g8, List.length_append]
        show D.length + 1 + (cp 0 + cp 1 + cp 2) ≤ D.length + (va_up cp 1 (2 * cp 1) 0 + va_up cp 1 (2 * cp 1) 1 + va_up cp 1 (2 * cp 1) 2)
        rw [va_up_self, va_up_ne _ _ (by decide : (0 : Nat) ≠ 1), va_up_ne _ _ (by decide : (2 : Nat) ≠ 1)]
        omega
  · have hn : w ∈ Nn.1 1 := Classical.not_not.mp fun q => hc (b01_f q)
    iterate 1 refine go_s rfl rfl rfl trivial ?_
    exact go_r rfl rfl rfl (Or.inl rfl) (Or.inl ⟨hn, rfl, rfl⟩)

theorem c_addRule2 {n : Nat} (h1 : J 4 = nI n) (hn : n ≤ 8) (x y : Int64) : Do m_La_addRule [.ref 21, .long x, .long y] (hC L xs J N G U p M D) (fun r h' => (n = 8 ∧ r = some (.int 0) ∧ h' = hC L xs J N G U p M D) ∨ (n < 8 ∧ r = some (.int 1) ∧ h' = hC L xs (va_up J 4 (nI (n + 1))) N (va_up (va_up G 3 (vp_updL (G 3) n x)) 6 (vp_updL (G 6) n y)) U p M D)) := by
  have cn : (nI n).toNatClampNeg = n := nI_clamp (by omega)
  iterate 2 refine go_s rfl rfl rfl trivial ?_
  rw [h1]
  iterate 2 refine go_s rfl rfl rfl trivial ?_
  refine go_if (fun hc => ?_) (fun hc => ?_)
  · have hlt := (nI_ltI (a := n) (b := 8) (by omega) (by omega)).mp hc
    iterate 4 refine go_s rfl rfl rfl trivial ?_
    rw [h1]
    iterate 1 refine go_s rfl rfl rfl trivial ?_
    refine go_s rfl rfl rfl ?_ ?_
    · exact vp_in_nI (by omega) (by omega)
    simp only [cn]
    iterate 4 refine go_s rfl rfl rfl trivial ?_
    rw [h1]
    iterate 1 refine go_s rfl rfl rfl trivial ?_
    refine go_s rfl rfl rfl ?_ ?_
    · exact vp_in_nI (by omega) (by omega)
    simp only [cn]
    iterate 3 refine go_s rfl rfl rfl trivial ?_
    rw [h1]
    iterate 2 refine go_s rfl rfl rfl trivial ?_
    rw [nI_1]
    iterate 2 refine go_s rfl rfl rfl trivial ?_
    exact go_r rfl rfl rfl (Or.inr rfl) (Or.inr ⟨hlt, rfl, rfl⟩)
  · have hge : ¬ n < 8 := fun q => hc ((nI_ltI (a := n) (b := 8) (by omega) (by omega)).mpr q)
    iterate 1 refine go_s rfl rfl rfl trivial ?_
    exact go_r rfl rfl rfl (Or.inl rfl) (Or.inl ⟨by omega, rfl, rfl⟩)
theorem c_asT2 {Nn : tx_N} {cp : Nat → Nat} (hN : cN Nn J G p D cp) {w : List Nat} (hw : wok w) (hlt : (Nn.1 2).length < cp 2) : Go m_La_addStop 65 [some (.ref 21), some (.long (lN (enc w))), none] [] (hC L xs J N G U p M D) (fun r h' => r = some (.int 1) ∧ ∃ J' G' D', h' = hC L xs J' N G' U p M D' ∧ cN (va_up Nn.1 2 (Nn.1 2 ++ [w]), Nn.2) J' G' p D' cp ∧ (∀ i, i ≠ 7 → J' i = J i) ∧ (∀ i, i < 7 ∨ 9 < i → G' i = G i) ∧ dK D D' ∧ am_sz D' = am_sz D ∧ D'.length = D.length) := by
  obtain ⟨n1, n2, fs, hr, hd⟩ := hN.1 2 (by decide)
  have n2 : J 7 = nI (Nn.1 2).length := n2
  have c2048 := hd.2.2.1
  have cn : (nI (Nn.1 2).length).toNatClampNeg = (Nn.1 2).length := nI_clamp (by omega)
  rcases id hr with ⟨e1, e2, e3⟩ | ⟨j, e1, e2⟩
  · have e1 : p 2 = 24 := e1
    subst e3
    iterate 2 refine go_s rfl rfl rfl trivial ?_
    rw [e1]
    iterate 2 refine go_s rfl rfl rfl trivial ?_
    rw [n2]
    iterate 1 refine go_s rfl rfl rfl trivial ?_
    refine go_s rfl rfl rfl ?_ ?_
    · exact vp_in_nI (by omega) (by omega)
    simp only [cn]
    iterate 3 refine go_s rfl rfl rfl trivial ?_
    rw [n2]
    iterate 2 refine go_s rfl rfl rfl trivial ?_
    rw [nI_1]
    iterate 2 refine go_s rfl rfl rfl trivial ?_
    refine go_r rfl rfl rfl (Or.inr rfl) ⟨rfl, va_up J 7 (nI ((Nn.1 2).length + 1)), va_up G 9 (vp_updL (G 9) (Nn.1 2).length (lN (enc w))), D, rfl, ?_, fun i hi => va_up_ne _ _ hi, fun i hi => va_up_ne _ _ (by omega), dK.rf D, rfl, rfl⟩
    refine cN_add hN (by decide) hlt hw (va_up_self _ _ _) (fun i hi => va_up_ne _ _ hi) (fun i hi => va_up_ne _ _ (by omega)) hd (Or.inl ⟨e1, e2, ?_⟩) (fun l' hl' hne fs' hr' => ?_)
    · exact (va_up_self _ _ _).symm
    · rcases hr' with ⟨f1, f2, f3⟩ | hr'
      · exact Or.inl ⟨f1, f2, by rw [f3]; exact (va_up_ne _ _ (by omega)).symm⟩
      · exact Or.inr hr'
  · have e1 : p 2 = j + 70 := e1
    iterate 2 refine go_s rfl rfl rfl trivial ?_
    rw [e1]
    iterate 2 refine go_s rfl rfl rfl trivial ?_
    rw [n2]
    iterate 1 refine go_s rfl rfl rfl trivial ?_
    refine go_s rfl rfl (s_ls (h := hC L xs J N G U p M D) (r := j + 70) e2) (vp_in_nI hlt (by omega)) ?_
    rw [cn]
    change Go m_La_addStop 75 _ _ (hC L xs J N G U p M (am_set D j (.inl (3, (cp 2, .inr (.inl (vp_updL fs (Nn.1 2).length (lN (enc w))))))))) _
    iterate 3 refine go_s rfl rfl rfl trivial ?_
    rw [n2]
    iterate 2 refine go_s rfl rfl rfl trivial ?_
    rw [nI_1]
    iterate 2 refine go_s rfl rfl rfl trivial ?_
    refine go_r rfl rfl rfl (Or.inr rfl) ⟨rfl, va_up J 7 (nI ((Nn.1 2).length + 1)), G, am_set D j (.inl (3, (cp 2, .inr (.inl (vp_updL fs (Nn.1 2).length (lN (enc w))))))), rfl, ?_, fun i hi => va_up_ne _ _ hi, fun _ _ => rfl, dK.set e2 _, am_sz_set (by exact rfl) D j e2, am_len_set _ _ _⟩
    refine cN_add hN (by decide) hlt hw (va_up_self _ _ _) (fun i hi => va_up_ne _ _ hi) (fun _ _ => rfl) hd (Or.inr ⟨j, e1, get_set_eq e2 _⟩) (fun l' hl' hne fs' hr' => ?_)
    rcases hr' with hr' | ⟨j', f1, f2⟩
    · exact Or.inl hr'
    · refine Or.inr ⟨j', f1, ?_⟩
      rw [am_get_set_ne _ _ ?_]
      · exact f2
      · intro q
        refine hN.2.1 l' 2 hl' (by decide) hne ?_
        rw [f1, e1, q]
theorem c_addStop2 {Nn : tx_N} {cp : Nat → Nat} (hN : cN Nn J G p D cp) {w : List Nat} (hw : wok w) (hsz : (Nn.1 2).length < 2000) : Do m_La_addStop [.ref 21, .long (lN (enc w))] (hC L xs J N G U p M D) (asPost 2 Nn w L xs J N G U p M D cp) := by
  obtain ⟨n1, n2, fs, hr, hd⟩ := hN.1 2 (by decide)
  obtain ⟨-, q0⟩ := hN.q (L := L) (xs := xs) (N := N) (U := U) (M := M) (l := 2) (by decide)
  obtain ⟨eA, iA, sA, capA, feA, fiA, fsA, hoA, hdA⟩ := q0
  have n2 : J 7 = nI (Nn.1 2).length := n2
  have c2048 := hd.2.2.1
  have hle := hd.2.1
  have hrow : am_get (hC L xs J N G U p M D) (p 2) = some (.inl (3, (cp 2, .inr (.inl fs)))) := srow.get (by decide) hr
  iterate 2 refine go_s rfl rfl rfl trivial ?_
  refine go_c rfl rfl rfl (c_La_isStop (a := 21) (by decide) hoA hdA hw.o) ?_
  rintro r h1 ⟨rfl, rfl⟩
  iterate 1 refine go_s rfl rfl rfl trivial ?_
  refine go_if (fun hc => ?_) (fun hc => ?_)
  · have hn := b01_eq0.mp hc
    iterate 2 refine go_s rfl rfl rfl trivial ?_
    rw [n2]
    iterate 2 refine go_s rfl rfl rfl trivial ?_
    refine go_s rfl rfl (s_ar hrow (by decide)) trivial ?_
    iterate 1 refine go_s rfl rfl rfl trivial ?_
    refine go_if (fun hc1 => ?_) (fun hc1 => ?_)
    · have hlt := (nI_ltI (by omega) (by omega)).mp hc1
      iterate 2 refine go_s rfl rfl rfl trivial ?_
      rw [n2]
      iterate 2 refine go_s rfl rfl rfl trivial ?_
      refine go_s rfl rfl (s_ar hrow (by decide)) trivial ?_
      iterate 1 refine go_s rfl rfl rfl trivial ?_
      refine go_if (fun _ => ?_) (fun hc2 => absurd hc1 hc2)
      refine (c_asT2 (L := L) (xs := xs) (N := N) (U := U) (M := M) hN hw hlt).mono fun r h' g => ?_
      obtain ⟨g1, J', G', D', g2, g3, g4, g5, g6, g7, g8⟩ := g
      exact Or.inr ⟨hn, g1, J', G', p, D', cp, g2, g3, g4, g5, rfl, g6, by omega, by omega⟩
    · have heq : (Nn.1 2).length = cp 2 := by
        have : ¬ (Nn.1 2).length < cp 2 := fun q => hc1 ((nI_ltI (by omega) (by omega)).mpr q)
        omega
      iterate 2 refine go_s rfl rfl rfl trivial ?_
      refine go_s rfl rfl (s_ar hrow (by decide)) trivial ?_
      iterate 2 refine go_s rfl rfl rfl trivial ?_
      refine go_if (fun hc2 => absurd ((nI_leI (a := 2048) (b := cp 2) (by omega) (by omega)).mp hc2) (by omega)) (fun _ => ?_)
      iterate 6 refine go_s rfl rfl rfl trivial ?_
      refine go_s rfl rfl (s_ar hrow (by decide)) trivial ?_
      iterate 1 refine go_s rfl rfl rfl trivial ?_
      rw [show (2 : Int32) * nI (cp 2) = nI (2 * cp 2) by rw [show (2 : Int32) = nI 2 from rfl, pk_mul]]
      have hcp := cN.pos hN (l := 2) (by decide)
      refine go_c rfl rfl rfl (c_copyOf3 hrow (m := 2 * cp 2) (by omega) (by omega) (by omega)) ?_
      rintro r h1 ⟨rfl, g, rfl, hg⟩
      iterate 1 refine go_s rfl rfl rfl trivial ?_
      change Go m_La_addStop 51 _ _ (hC L xs J N G U (va_up p 2 (D.length + 70)) M (D ++ [.inl (3, (2 * cp 2, .inr (.inl g)))])) _
      have hk2 := (hN.2.2 2 (by decide)).dbl (by omega)
      have hN' := cN_grow hN (l := 2) (by decide) hd (m := 2 * cp 2) (g := g) (by omega) hk2.2 hk2.1 (fun k hk => hg k (by omega))
      have hrow' : am_get (hC L xs J N G U (va_up p 2 (D.length + 70)) M (D ++ [.inl (3, (2 * cp 2, .inr (.inl g)))])) (va_up p 2 (D.length + 70) 2) = some (.inl (3, (2 * cp 2, .inr (.inl g)))) := srow.get (l := 2) (G := G) (by decide) (Or.inr ⟨D.length, va_up_self _ _ _, get_push _ _⟩)
      iterate 2 refine go_s rfl rfl rfl trivial ?_
      rw [n2]
      iterate 2 refine go_s rfl rfl rfl trivial ?_
      change Go m_La_addStop 59 _ [.ref (va_up p 2 (D.length + 70) 2), .int (nI (Nn.1 2).length)] (hC L xs J N G U (va_up p 2 (D.length + 70)) M (D ++ [.inl (3, (2 * cp 2, .inr (.inl g)))])) _
      refine go_s rfl rfl (s_ar hrow' (by decide)) trivial ?_
      iterate 1 refine go_s rfl rfl rfl trivial ?_
      refine go_if (fun _ => ?_) (fun hc2 => absurd ((nI_ltI (a := (Nn.1 2).length) (b := 2 * cp 2) (by omega) (by omega)).mpr (by omega)) hc2)
      refine (c_asT2 (L := L) (xs := xs) (N := N) (U := U) (M := M) hN' hw (by rw [va_up_self]; omega)).mono fun r h' g => ?_
      obtain ⟨g1, J', G', D', g2, g3, g4, g5, g6, g7, g8⟩ := g
      refine Or.inr ⟨hn, g1, J', G', _, D', _, g2, g3, g4, g5, rfl, (dK.push D _).tr g6, ?_, ?_⟩
      · rw [g7, am_sz_push]
        show am_sz D + 2 * cp 2 + 2 * (cp 0 + cp 1 + cp 2) ≤ am_sz D + 2 * (va_up cp 2 (2 * cp 2) 0 + va_up cp 2 (2 * cp 2) 1 + va_up cp 2 (2 * cp 2) 2)
        rw [va_up_self, va_up_ne _ _ (by decide : (0 : Nat) ≠ 2), va_up_ne _ _ (by decide : (1 : Nat) ≠ 2)]
        omega
      · rw [g8, List.length_append]
        show D.length + 1 + (cp 0 + cp 1 + cp 2) ≤ D.length + (va_up cp 2 (2 * cp 2) 0 + va_up cp 2 (2 * cp 2) 1 + va_up cp 2 (2 * cp 2) 2)
        rw [va_up_self, va_up_ne _ _ (by decide : (0 : Nat) ≠ 2), va_up_ne _ _ (by decide : (1 : Nat) ≠ 2)]
        omega
  · have hn : w ∈ Nn.1 2 := Classical.not_not.mp fun q => hc (b01_f q)
    iterate 1 refine go_s rfl rfl rfl trivial ?_
    exact go_r rfl rfl rfl (Or.inl rfl) (Or.inl ⟨hn, rfl, rfl⟩)

theorem c_addStop {Nn : tx_N} {cp : Nat → Nat} (hN : cN Nn J G p D cp) {l : Nat} (hl : l < 3) {w : List Nat} (hw : wok w) (hsz : (Nn.1 l).length < 2000) : Do m_La_addStop [.ref (13 + 4 * l), .long (lN (enc w))] (hC L xs J N G U p M D) (asPost l Nn w L xs J N G U p M D cp) := by
  rcases (by omega : l = 0 ∨ l = 1 ∨ l = 2) with rfl | rfl | rfl
  · exact c_addStop0 hN hw hsz
  · exact c_addStop1 hN hw hsz
  · exact c_addStop2 hN hw hsz
theorem c_addRule {n l : Nat} (hl : l < 3) (h1 : J (2 + l) = nI n) (hn : n ≤ 8) (x y : Int64) : Do m_La_addRule [.ref (13 + 4 * l), .long x, .long y] (hC L xs J N G U p M D) (fun r h' => (n = 8 ∧ r = some (.int 0) ∧ h' = hC L xs J N G U p M D) ∨ (n < 8 ∧ r = some (.int 1) ∧ h' = hC L xs (va_up J (2 + l) (nI (n + 1))) N (va_up (va_up G (1 + l) (vp_updL (G (1 + l)) n x)) (4 + l) (vp_updL (G (4 + l)) n y)) U p M D)) := by
  rcases (by omega : l = 0 ∨ l = 1 ∨ l = 2) with rfl | rfl | rfl
  · exact c_addRule0 h1 hn x y
  · exact c_addRule1 h1 hn x y
  · exact c_addRule2 h1 hn x y
end GROW
