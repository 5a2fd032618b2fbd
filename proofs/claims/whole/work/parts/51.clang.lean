/-! ===== steps over cells whose numbers aren't written ===== -/
theorem nbq : ∀ a, Nat.beq a a = true
  | 0 => rfl
  | a + 1 => nbq a
section RULES
variable {df : Nat → List Value} {ft : Nat → Nat → FieldType} {nx a b : Nat} {k : Int32} {l : Int64} {ls : List (Option Value)} {st : List Value} {h : List am_C} {r n : Nat}
theorem s_gf {q : Nat} {fs : List Value} {v : Value} (hr : am_get h r = some (.inr (a, fs))) (hv : am_get fs b = some v) : am_s df ft (.getfield q) nx a b k l ls (.ref r :: st) h = some (True, nx, ls, v :: st, h) := by
  show am_getf nx a b k l ls (.ref r :: st) h = _
  simp only [am_getf, hr, nbq, hv]
theorem s_pf {q : Nat} {fs : List Value} {v v0 : Value} (hr : am_get h r = some (.inr (a, fs))) (hv : am_get fs b = some v0) : am_s df ft (.putfield q) nx a b k l ls (v :: .ref r :: st) h = some (am_fg (ft a b) v, nx, ls, st, am_set h r (.inr (a, am_set fs b v))) := by
  show (match am_get h r with
      | some (.inr (ci, fs)) => (match Nat.beq ci a with
        | true => (match am_get fs b with
          | some _ => some (am_fg (ft a b) v, nx, ls, st, am_set h r (.inr (a, am_set fs b v)))
          | none => none)
        | false => none)
      | _ => none) = _
  simp only [hr, nbq, hv]
theorem s_la {i : Int32} {f : Nat → Int64} (hr : am_get h r = some (.inl (3, (n, .inr (.inl f))))) : am_s df ft .laload nx a b k l ls (.int i :: .ref r :: st) h = some (vp_in i n, nx, ls, .long (f i.toNatClampNeg) :: st, h) := by
  show am_lald nx a b k l ls (.int i :: .ref r :: st) h = _
  simp only [am_lald, hr, nbq]
theorem s_ls {i : Int32} {x : Int64} {f : Nat → Int64} (hr : am_get h r = some (.inl (3, (n, .inr (.inl f))))) : am_s df ft .lastore nx a b k l ls (.long x :: .int i :: .ref r :: st) h = some (vp_in i n, nx, ls, st, am_set h r (.inl (3, (n, .inr (.inl (vp_updL f i.toNatClampNeg x)))))) := by
  show am_last nx a b k l ls (.long x :: .int i :: .ref r :: st) h = _
  simp only [am_last, hr, nbq]
theorem s_ia {i : Int32} {f : Nat → Int32} (hr : am_get h r = some (.inl (0, (n, .inl f)))) : am_s df ft .iaload nx a b k l ls (.int i :: .ref r :: st) h = some (vp_in i n, nx, ls, .int (f i.toNatClampNeg) :: st, h) := by
  show am_ald 0 0 nx a b k l ls (.int i :: .ref r :: st) h = _
  simp only [am_ald, hr, nbq, Bool.or_self]
theorem ble_t {a b : Nat} (h : a ≤ b) : Nat.ble a b = true := Nat.ble_eq_true_of_le h
theorem s_is {i x : Int32} {f : Nat → Int32} (hr : am_get h r = some (.inl (0, (n, .inl f)))) (h6 : 6 ≤ r) : am_s df ft .iastore nx a b k l ls (.int x :: .int i :: .ref r :: st) h = some (vp_in i n, nx, ls, st, am_set h r (.inl (0, (n, .inl (upd f i.toNatClampNeg x))))) := by
  show am_iast nx a b k l ls (.int x :: .int i :: .ref r :: st) h = _
  simp only [am_iast, hr, nbq, ble_t h6, Bool.and_self]
theorem s_ar {t : Nat} {d : (Nat → Int32) ⊕ ((Nat → Int64) ⊕ ((Nat → UInt32) ⊕ ((Nat → UInt64) ⊕ (Nat → Option Nat))))} (hr : am_get h r = some (.inl (t, (n, d)))) (ht : t ≤ 5) : am_s df ft .arraylength nx a b k l ls (.ref r :: st) h = some (True, nx, ls, .int (nI n) :: st, h) := by
  show am_alen nx a b k l ls (.ref r :: st) h = _
  simp only [am_alen, hr, ble_t ht]
  rfl
theorem s_aa {i : Int32} {f : Nat → Option Nat} {t : Nat} (hr : am_get h r = some (.inl (t, (n, .inr (.inr (.inr (.inr f))))))) (h6 : 6 ≤ r) (ht : t = 4 ∨ t = 5) : am_s df ft .aaload nx a b k l ls (.int i :: .ref r :: st) h = some (vp_in i n, nx, ls, va_rf (f i.toNatClampNeg) :: st, h) := by
  show am_aald nx a b k l ls (.int i :: .ref r :: st) h = _
  rcases ht with rfl | rfl
  · simp only [am_aald, hr, nbq, ble_t h6, Bool.true_or, Bool.and_self]
  · simp only [am_aald, hr, nbq, ble_t h6, Bool.or_true, Bool.and_self]
theorem call_v {kc ml : Nat → Nat} {c : Nat} {as st2 : List Value} {fs : List Value} (ht : am_tk c st [] = some (as, .ref r :: st2)) (hr : am_get h r = some (.inr (kc a, fs))) (h6 : 6 ≤ r) (hroom : am_room st2 = true) (hfit : am_fits (.ref r :: as) (ml a) = true) : am_call kc ml a 0 c st h = some (a, .ref r :: as, st2) := by
  simp only [am_call, ht, hr, nbq, ble_t h6, hroom, hfit, Bool.and_self]
end RULES
/-! ===== the class's languages ===== -/
/-- the object of language l at a: stop words S, rules R -/
def lgo (h : List am_C) (a l : Nat) (S : List (List Nat)) (R : List (List Nat × List Nat)) (e i s cap : Nat) (fe fi fs : Nat → Int64) : Prop := am_get h a = some (.inr (2, [.int (nI l), .ref e, .ref i, .int (nI R.length), .ref s, .int (nI S.length)])) ∧ am_get h e = some (.inl (3, (8, .inr (.inl fe)))) ∧ am_get h i = some (.inl (3, (8, .inr (.inl fi)))) ∧ am_get h s = some (.inl (3, (cap, .inr (.inl fs))))
def lgd (S : List (List Nat)) (R : List (List Nat × List Nat)) (cap : Nat) (fe fi fs : Nat → Int64) : Prop := R.length ≤ 8 ∧ S.length ≤ cap ∧ cap ≤ 2048 ∧ (∀ k, k < R.length → fe k = lN (enc (R.getD k ([], [])).1) ∧ fi k = lN (enc (R.getD k ([], [])).2)) ∧ (∀ k, k < S.length → fs k = lN (enc (S.getD k []))) ∧ (∀ w, w ∈ S → wok w) ∧ ∀ q, q ∈ R → wok q.1 ∧ wok0 q.2
def lgq (h : List am_C) (a l : Nat) (S : List (List Nat)) (R : List (List Nat × List Nat)) : Prop := 6 ≤ a ∧ ∃ e i s cap fe fi fs, lgo h a l S R e i s cap fe fi fs ∧ lgd S R cap fe fi fs
theorem pre_app (w : List Nat) (o : Nat) : ∀ k, pre w (o + k) = pre w o * 37 ^ k + pre (w.drop o) k
  | 0 => by simp [pre]
  | k + 1 => by
    have e : dgt w (o + k) = dgt (w.drop o) k := by
      rw [dgt, dgt, List.length_drop, List.getD_eq_getElem?_getD, List.getD_eq_getElem?_getD, List.getElem?_drop]
      by_cases q : o + k < w.length
      · rw [if_pos q, if_pos (by omega)]
      · rw [if_neg q, if_neg (by omega)]
    rw [show o + (k + 1) = o + k + 1 from rfl, pre, pre, pre_app w o k, e, Nat.pow_succ, Nat.mul_add, ← Nat.mul_assoc, Nat.mul_comm 37 (pre w o), Nat.mul_assoc, Nat.mul_comm 37 (37 ^ k)]
    omega
theorem dgt_opt (w : List Nat) (k : Nat) : dgt w k = ((w[k]?).map dig).getD 0 := by
  rw [dgt]
  by_cases q : k < w.length
  · rw [if_pos q, List.getD_eq_getElem?_getD, List.getElem?_eq_getElem q]
    rfl
  · rw [if_neg q, List.getElem?_eq_none (by omega)]
    rfl
/-- a word with another ending -/
theorem enc_stem (w v : List Nat) {o : Nat} (ho : o ≤ w.length) (h12 : o ≤ 12) : enc ((w.take o ++ v).take 12) = pre w o * 37 ^ (12 - o) + pre v (12 - o) := by
  have e := pre_app ((w.take o ++ v).take 12) o (12 - o)
  rw [show o + (12 - o) = 12 by omega] at e
  have hl : (w.take o).length = o := by rw [List.length_take]; omega
  have e1 : pre ((w.take o ++ v).take 12) o = pre w o := by
    refine (pre_ext o).mpr fun i hi => ?_
    rw [dgt_opt, dgt_opt, List.getElem?_take_of_lt (by omega), List.getElem?_append_left (by omega), List.getElem?_take_of_lt hi]
  have e2 : pre (((w.take o ++ v).take 12).drop o) (12 - o) = pre v (12 - o) := by
    refine (pre_ext _).mpr fun i hi => ?_
    rw [dgt_opt, dgt_opt, List.getElem?_drop, List.getElem?_take_of_lt (by omega), List.getElem?_append_right (by omega), hl, Nat.add_sub_cancel_left]
  rw [enc, e, e1, e2]
theorem stemF_ok : ∀ (R : List (List Nat × List Nat)) (w : List Nat), wok w → (∀ q, q ∈ R → wok q.1 ∧ wok0 q.2) → wok (stemF R w)
  | [], w, hw, _ => hw
  | q :: R, w, hw, hR => by
    rw [stemF]
    split
    · rename_i hc
      obtain ⟨h1, h2⟩ := hR q List.mem_cons_self
      refine ⟨?_, by rw [List.length_take]; omega, fun x hx => ?_⟩
      · have := hw.2.1
        rw [List.length_take, List.length_append, List.length_take]
        omega
      · rcases List.mem_append.mp (List.mem_of_mem_take hx) with g | g
        · exact hw.2.2 x (List.mem_of_mem_take g)
        · exact h2.2 x g
    · exact stemF_ok R w hw (fun q hq => hR q (List.mem_cons_of_mem _ hq))
def encO (o : Option (List Nat)) : Nat := match o with
  | none => 0
  | some u => enc u
theorem encO63 (o : Option (List Nat)) : encO o < 2 ^ 63 := by
  cases o with
  | none => exact (by decide : (0 : Nat) < 2 ^ 63)
  | some u => exact enc63 u
section LANG
variable {h : List am_C} {a l e i s cap : Nat} {S : List (List Nat)} {R : List (List Nat × List Nat)} {fe fi fs : Nat → Int64}
theorem c_La_isStop (h6 : 6 ≤ a) (ho : lgo h a l S R e i s cap fe fi fs) (hd : lgd S R cap fe fi fs) {w : List Nat} (hw : wok0 w) : Do m_La_isStop [.ref a, .long (lN (enc w))] h (fun r h' => r = some (.int (b01 (w ∈ S))) ∧ h' = h) := by
  obtain ⟨o1, o2, o3, o4⟩ := ho
  obtain ⟨d1, d2, d3, d4, d5, d6, d7⟩ := hd
  have key : ∀ (d k : Nat), S.length = k + d → (∀ j, j < k → S.getD j [] ≠ w) → Go m_La_isStop 2 [some (.ref a), some (.long (lN (enc w))), none, some (.int (nI k))] [] h (fun r h' => r = some (.int (b01 (w ∈ S))) ∧ h' = h) := by
    intro d
    induction d with
    | zero =>
      intro k hk hno
      have ek : k = S.length := by omega
      subst ek
      iterate 2 refine go_s rfl rfl rfl trivial ?_
      refine go_s rfl rfl (s_gf o1 rfl) trivial ?_
      iterate 1 refine go_s rfl rfl rfl trivial ?_
      refine go_if (fun _ => ?_) (fun hc => absurd (Int32.le_refl _) hc)
      iterate 1 refine go_s rfl rfl rfl trivial ?_
      refine go_r rfl rfl rfl (Or.inl rfl) ⟨?_, rfl⟩
      rw [b01_f]
      intro q
      obtain ⟨j, j1, j2⟩ := mem_getD.mp q
      exact hno j j1 j2
    | succ d ih =>
      intro k hk hno
      have ck : (nI k).toNatClampNeg = k := nI_clamp (by omega)
      have hmem : S.getD k [] ∈ S := mem_getD.mpr ⟨k, by omega, rfl⟩
      iterate 2 refine go_s rfl rfl rfl trivial ?_
      refine go_s rfl rfl (s_gf o1 rfl) trivial ?_
      iterate 1 refine go_s rfl rfl rfl trivial ?_
      refine go_if (fun hc => absurd hc (nI_ge (by omega) (by omega))) (fun _ => ?_)
      iterate 2 refine go_s rfl rfl rfl trivial ?_
      refine go_s rfl rfl (s_gf o1 rfl) trivial ?_
      refine go_s rfl rfl (s_ar o4 (by decide)) trivial ?_
      iterate 1 refine go_s rfl rfl rfl trivial ?_
      refine go_if (fun hc => absurd hc (nI_ge (by omega) (by omega))) (fun _ => ?_)
      iterate 1 refine go_s rfl rfl rfl trivial ?_
      refine go_s rfl rfl (s_gf o1 rfl) trivial ?_
      iterate 1 refine go_s rfl rfl rfl trivial ?_
      refine go_s rfl rfl (s_la o4) (vp_in_nI (by omega) (by omega)) ?_
      rw [ck, d5 k (by omega)]
      iterate 3 refine go_s rfl rfl rfl trivial ?_
      refine go_if (fun hc => ?_) (fun hc => ?_)
      · have hne : S.getD k [] ≠ w := fun q => hc ((lg_cmp_eq _ _).mpr (by rw [q]))
        iterate 2 refine go_s rfl rfl rfl trivial ?_
        rw [nI_1]
        refine ih (k + 1) (by omega) (fun j hj => ?_)
        rcases Nat.lt_or_ge j k with g | g
        · exact hno j g
        · rw [show j = k by omega]; exact hne
      · have he := (encI (d6 _ hmem).o hw).mp ((lg_cmp_eq _ _).mp (Classical.not_not.mp hc))
        iterate 1 refine go_s rfl rfl rfl trivial ?_
        refine go_r rfl rfl rfl (Or.inr rfl) ⟨?_, rfl⟩
        rw [b01_t (by rw [← he]; exact hmem)]
  iterate 2 refine go_s rfl rfl rfl trivial ?_
  exact key S.length 0 (by omega) (fun j hj => absurd hj (Nat.not_lt_zero j))
theorem c_isEnding (h : List am_C) {e w : List Nat} (he : wok0 e) (hw : wok0 w) (hl : e.length + 3 ≤ w.length) : Do m_La_isEnding [.long (lN (enc e)), .long (lN (enc w))] h (fun r h' => r = some (.int (b01 (endP w e))) ∧ h' = h) := by
  have e12 := he.1
  have w12 := hw.1
  have e1 : (12 : Int32) - nI e.length = nI (12 - e.length) := by rw [show (12 : Int32) = nI 12 from rfl, pk_sub (by omega)]
  have e2 : (12 : Int32) - nI w.length = nI (12 - w.length) := by rw [show (12 : Int32) = nI 12 from rfl, pk_sub (by omega)]
  have f1 : enc e / 37 ^ (12 - e.length) = pre e e.length := by
    have := pre_divs e e.length (12 - e.length)
    rw [show e.length + (12 - e.length) = 12 by omega] at this
    exact this
  have f2 : enc w / 37 ^ (12 - w.length) = pre w w.length := by
    have := pre_divs w w.length (12 - w.length)
    rw [show w.length + (12 - w.length) = 12 by omega] at this
    exact this
  obtain ⟨o, ho⟩ : ∃ o, w.length = o + e.length := ⟨w.length - e.length, by omega⟩
  have f3 : pre w w.length / 37 ^ e.length = pre w o := by rw [ho]; exact pre_divs w o e.length
  have f4 : pre w w.length = pre w o * 37 ^ e.length + pre (w.drop o) e.length := by
    have := pre_app w o e.length
    rw [← ho] at this
    exact this
  iterate 1 refine go_s rfl rfl rfl trivial ?_
  refine go_c rfl rfl rfl (c_lengthOf h he) ?_
  rintro r h1 ⟨rfl, rfl⟩
  iterate 5 refine go_s rfl rfl rfl trivial ?_
  rw [e1]
  refine go_c rfl rfl rfl (c_withoutLast h1 (enc e) (12 - e.length) (enc63 e) (by omega)) ?_
  rintro r h2 ⟨rfl, rfl⟩
  rw [f1]
  iterate 4 refine go_s rfl rfl rfl trivial ?_
  refine go_c rfl rfl rfl (c_lengthOf h2 hw) ?_
  rintro r h3 ⟨rfl, rfl⟩
  iterate 1 refine go_s rfl rfl rfl trivial ?_
  rw [e2]
  refine go_c rfl rfl rfl (c_withoutLast h3 (enc w) (12 - w.length) (enc63 w) (by omega)) ?_
  rintro r h4 ⟨rfl, rfl⟩
  rw [f2]
  iterate 3 refine go_s rfl rfl rfl trivial ?_
  refine go_c rfl rfl rfl (c_withoutLast h4 (pre w w.length) e.length (pre63 w w12) e12) ?_
  rintro r h5 ⟨rfl, rfl⟩
  rw [f3]
  iterate 4 refine go_s rfl rfl rfl trivial ?_
  refine go_c rfl rfl rfl (c_withZeros h5 (pre w o) e.length e12) ?_
  rintro r h6 ⟨rfl, rfl⟩
  iterate 1 refine go_s rfl rfl rfl trivial ?_
  rw [lN_sub (by rw [f4]; omega), show pre w w.length - pre w o * 37 ^ e.length = pre (w.drop o) e.length by rw [f4]; omega]
  have hdo : wok0 (w.drop o) := ⟨by rw [List.length_drop]; omega, fun x hx => hw.2 x (List.mem_of_mem_drop hx)⟩
  have hiff : pre e e.length = pre (w.drop o) e.length ↔ endP w e := by
    rw [pre_beg he hdo, begP, endP, show w.length - e.length = o by omega, List.take_of_length_le (by rw [List.length_drop]; omega)]
    exact ⟨fun q => ⟨by omega, q⟩, fun q => q.2⟩
  iterate 3 refine go_s rfl rfl rfl trivial ?_
  refine go_if (fun hc => ?_) (fun hc => ?_)
  · iterate 1 refine go_s rfl rfl rfl trivial ?_
    refine go_r rfl rfl rfl (Or.inl rfl) ⟨?_, rfl⟩
    rw [b01_f]
    intro q
    exact hc ((lg_cmp_eq _ _).mpr (by rw [hiff.mpr q]))
  · have g := (lg_cmp_eq _ _).mp (Classical.not_not.mp hc)
    rw [pk_lEQ (pre63 _ e12) (pre63 _ e12)] at g
    iterate 2 refine go_s rfl rfl rfl trivial ?_
    refine go_r rfl rfl rfl (Or.inr rfl) ⟨?_, rfl⟩
    rw [b01_t (hiff.mp g.symm)]
theorem drop_getD {R : List (List Nat × List Nat)} {k : Nat} (hk : k < R.length) : R.drop k = R.getD k ([], []) :: R.drop (k + 1) := by
  rw [List.drop_eq_getElem_cons hk, List.getD_eq_getElem?_getD, List.getElem?_eq_getElem hk]
  rfl
theorem c_La_stemOf (h6 : 6 ≤ a) (ho : lgo h a l S R e i s cap fe fi fs) (hd : lgd S R cap fe fi fs) {w : List Nat} (hw : wok0 w) : Do m_La_stemOf [.ref a, .long (lN (enc w))] h (fun r h' => r = some (.long (lN (enc (stemF R w)))) ∧ h' = h) := by
  obtain ⟨o1, o2, o3, o4⟩ := ho
  obtain ⟨d1, d2, d3, d4, d5, d6, d7⟩ := hd
  have w12 := hw.1
  have key : ∀ (d k : Nat) (X5 X6 X7 : Option Value), R.length = k + d → stemF R w = stemF (R.drop k) w → Go m_La_stemOf 8 [some (.ref a), some (.long (lN (enc w))), none, some (.int (nI w.length)), some (.int (nI k)), X5, X6, X7] [] h (fun r h' => r = some (.long (lN (enc (stemF R w)))) ∧ h' = h) := by
    intro d
    induction d with
    | zero =>
      intro k X5 X6 X7 hk hst
      have ek : k = R.length := by omega
      subst ek
      iterate 2 refine go_s rfl rfl rfl trivial ?_
      refine go_s rfl rfl (s_gf o1 rfl) trivial ?_
      iterate 1 refine go_s rfl rfl rfl trivial ?_
      refine go_if (fun _ => ?_) (fun hc => absurd (Int32.le_refl _) hc)
      iterate 1 refine go_s rfl rfl rfl trivial ?_
      refine go_r rfl rfl rfl trivial ⟨?_, rfl⟩
      rw [hst, List.drop_length]
      rfl
    | succ d ih =>
      intro k X5 X6 X7 hk hst
      have ck : (nI k).toNatClampNeg = k := nI_clamp (by omega)
      have hmem : R.getD k ([], []) ∈ R := by
        rw [List.getD_eq_getElem?_getD, List.getElem?_eq_getElem (by omega)]
        exact List.getElem_mem _
      obtain ⟨q1, q2⟩ := d7 _ hmem
      obtain ⟨r1, r2⟩ := d4 k (by omega)
      rw [drop_getD (by omega), stemF] at hst
      generalize R.getD k ([], []) = q at *
      have e12 := q1.2.1
      have next : ¬ endP w q.1 → ∀ Y5 Y6 Y7, Go m_La_stemOf 93 [some (.ref a), some (.long (lN (enc w))), none, some (.int (nI w.length)), some (.int (nI k)), Y5, Y6, Y7] [] h (fun r h' => r = some (.long (lN (enc (stemF R w)))) ∧ h' = h) := by
        intro hn Y5 Y6 Y7
        iterate 2 refine go_s rfl rfl rfl trivial ?_
        rw [nI_1]
        refine ih (k + 1) Y5 Y6 Y7 (by omega) ?_
        exact hst.trans (if_neg hn)
      iterate 2 refine go_s rfl rfl rfl trivial ?_
      refine go_s rfl rfl (s_gf o1 rfl) trivial ?_
      iterate 1 refine go_s rfl rfl rfl trivial ?_
      refine go_if (fun hc => absurd hc (nI_ge (by omega) (by omega))) (fun _ => ?_)
      iterate 3 refine go_s rfl rfl rfl trivial ?_
      refine go_if (fun hc => absurd hc (nI_ge (a := k) (b := 8) (by omega) (by omega))) (fun _ => ?_)
      iterate 2 refine go_s rfl rfl rfl trivial ?_
      refine go_s rfl rfl (s_gf o1 rfl) trivial ?_
      iterate 1 refine go_s rfl rfl rfl trivial ?_
      refine go_s rfl rfl (s_la o2) (vp_in_nI (by omega) (by omega)) ?_
      rw [ck, r1]
      refine go_c rfl rfl rfl (c_lengthOf h q1.o) ?_
      rintro r h1 ⟨rfl, rfl⟩
      iterate 4 refine go_s rfl rfl rfl trivial ?_
      rcases Nat.lt_or_ge w.length q.1.length with hl | hl
      · have hneg : nI w.length - nI q.1.length < 3 := by
          have h0 := pk_sneg (a := w.length) (b := q.1.length) (by omega) hl
          rw [Int32.lt_iff_toInt_lt] at h0 ⊢
          exact Int.lt_trans h0 (by decide)
        iterate 1 refine go_s rfl rfl rfl trivial ?_
        refine go_if (fun _ => ?_) (fun hc => absurd hneg hc)
        exact next (fun q => by have := q.1; omega) _ _ _
      · rw [pk_sub hl]
        iterate 1 refine go_s rfl rfl rfl trivial ?_
        refine go_if (fun hc => ?_) (fun hc => ?_)
        · have := (nI_ltI (b := 3) (by omega) (by omega)).mp hc
          exact next (fun q => by have := q.1; omega) _ _ _
        · have h3 : ¬ w.length - q.1.length < 3 := fun g => hc ((nI_ltI (b := 3) (by omega) (by omega)).mpr g)
          iterate 1 refine go_s rfl rfl rfl trivial ?_
          refine go_s rfl rfl (s_gf o1 rfl) trivial ?_
          iterate 1 refine go_s rfl rfl rfl trivial ?_
          refine go_s rfl rfl (s_la o2) (vp_in_nI (by omega) (by omega)) ?_
          rw [ck, r1]
          iterate 1 refine go_s rfl rfl rfl trivial ?_
          refine go_c rfl rfl rfl (c_isEnding h1 q1.o hw (by omega)) ?_
          rintro r h2 ⟨rfl, rfl⟩
          iterate 1 refine go_s rfl rfl rfl trivial ?_
          refine go_if (fun hc1 => ?_) (fun hc1 => ?_)
          · exact next (b01_eq0.mp hc1) _ _ _
          · have hend : endP w q.1 := Classical.not_not.mp fun q => hc1 (b01_f q)
            have e1 : (12 : Int32) - nI (w.length - q.1.length) = nI (12 - (w.length - q.1.length)) := by rw [show (12 : Int32) = nI 12 from rfl, pk_sub (by omega)]
            have f1 : enc w / 37 ^ (12 - (w.length - q.1.length)) = pre w (w.length - q.1.length) := by
              have := pre_divs w (w.length - q.1.length) (12 - (w.length - q.1.length))
              rw [show w.length - q.1.length + (12 - (w.length - q.1.length)) = 12 by omega] at this
              exact this
            have f2 : enc q.2 / 37 ^ (w.length - q.1.length) = pre q.2 (12 - (w.length - q.1.length)) := by
              have := pre_divs q.2 (12 - (w.length - q.1.length)) (w.length - q.1.length)
              rw [show 12 - (w.length - q.1.length) + (w.length - q.1.length) = 12 by omega] at this
              exact this
            iterate 4 refine go_s rfl rfl rfl trivial ?_
            rw [e1]
            refine go_c rfl rfl rfl (c_withoutLast h2 (enc w) (12 - (w.length - q.1.length)) (enc63 w) (by omega)) ?_
            rintro r h3 ⟨rfl, rfl⟩
            rw [f1]
            iterate 5 refine go_s rfl rfl rfl trivial ?_
            rw [e1]
            refine go_c rfl rfl rfl (c_withZeros h3 (pre w (w.length - q.1.length)) (12 - (w.length - q.1.length)) (by omega)) ?_
            rintro r h4 ⟨rfl, rfl⟩
            iterate 1 refine go_s rfl rfl rfl trivial ?_
            refine go_s rfl rfl (s_gf o1 rfl) trivial ?_
            iterate 1 refine go_s rfl rfl rfl trivial ?_
            refine go_s rfl rfl (s_la o3) (vp_in_nI (by omega) (by omega)) ?_
            rw [ck, r2]
            iterate 1 refine go_s rfl rfl rfl trivial ?_
            refine go_c rfl rfl rfl (c_withoutLast h4 (enc q.2) (w.length - q.1.length) (enc63 q.2) (by omega)) ?_
            rintro r h5 ⟨rfl, rfl⟩
            rw [f2]
            iterate 1 refine go_s rfl rfl rfl trivial ?_
            refine go_r rfl rfl rfl trivial ⟨?_, rfl⟩
            rw [lN_add, hst.trans (if_pos hend), enc_stem w q.2 (by omega) (by omega)]
  iterate 1 refine go_s rfl rfl rfl trivial ?_
  refine go_c rfl rfl rfl (c_lengthOf h hw) ?_
  rintro r h1 ⟨rfl, rfl⟩
  iterate 3 refine go_s rfl rfl rfl trivial ?_
  exact key R.length 0 _ _ _ (by omega) (by rw [List.drop_zero])
end LANG
theorem c_stemInTexts {h : List am_C} {a l : Nat} {N : tx_N} (hq : lgq h a l (N.1 l) (N.2 l)) {w : List Nat} (hw : wok0 w) : Do m_La_stemInTexts [.ref a, .long (lN (enc w))] h (fun r h' => r = some (.long (lN (encO (nE N l w)))) ∧ h' = h) := by
  obtain ⟨h6, e, i, s, cap, fe, fi, fs, ho, hd⟩ := hq
  iterate 2 refine go_s rfl rfl rfl trivial ?_
  refine go_c rfl rfl (call_v rfl ho.1 h6 rfl rfl) (c_La_isStop h6 ho hd hw) ?_
  rintro r h1 ⟨rfl, rfl⟩
  iterate 1 refine go_s rfl rfl rfl trivial ?_
  refine go_if (fun hc => ?_) (fun hc => ?_)
  · have hn := b01_eq0.mp hc
    iterate 2 refine go_s rfl rfl rfl trivial ?_
    refine go_c rfl rfl (call_v rfl ho.1 h6 rfl rfl) (c_La_stemOf h6 ho hd hw) ?_
    rintro r h2 ⟨rfl, rfl⟩
    refine go_r rfl rfl rfl trivial ⟨?_, rfl⟩
    rw [nE, ifp_f hn]
    rfl
  · have hn : w ∈ N.1 l := Classical.not_not.mp fun q => hc (b01_f q)
    iterate 2 refine go_s rfl rfl rfl trivial ?_
    refine go_r rfl rfl rfl trivial ⟨?_, rfl⟩
    rw [nE, ifp_t hn]
    rfl
