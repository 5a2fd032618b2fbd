/-! ===== the reference: which stems texts have ===== -/
/-- E l w: the stem that a word has in texts of a language; none for a stop word -/
def menv (I : Nat → Int32) (B : Nat → Nat → Int32) (μ : Nat → List Nat) (E : Nat → List Nat → Option (List Nat)) : Prop := ∃ (ns : Nat) (nr : Nat → Nat), I 3 = nI ns ∧ ns ≤ 2000 ∧ (∀ l, l < 3 → B 9 l = nI (nr l) ∧ nr l ≤ 8) ∧ ∀ l, l < 3 → ∀ w, (stopQ ns B μ (nI l) w → E l w = none) ∧ (¬ stopQ ns B μ (nI l) w → E l w = some (stemF (rl μ l 0 (nr l)) w))
theorem rl_keep {μ μ' : Nat → List Nat} {l : Nat} (hl : l < 3) (h : ∀ a, 3920 ≤ a → a < 3968 → μ' a = μ a) : ∀ (d r : Nat), r + d ≤ 8 → rl μ' l r d = rl μ l r d
  | 0, _, _ => rfl
  | d + 1, r, hr => by
    simp only [rl]
    rw [h _ (by omega) (by omega), h _ (by omega) (by omega), rl_keep hl h d (r + 1) (by omega)]
theorem menv.keep {I I' : Nat → Int32} {B B' : Nat → Nat → Int32} {μ μ' : Nat → List Nat} {E : Nat → List Nat → Option (List Nat)} (h : menv I B μ E) (hI : I' 3 = I 3) (hB8 : B' 8 = B 8) (hB9 : B' 9 = B 9) (hm : ∀ a, 1920 ≤ a → a < 3968 → μ' a = μ a) : menv I' B' μ' E := by
  obtain ⟨ns, nr, h1, h2, h3, h4⟩ := h
  refine ⟨ns, nr, hI.trans h1, h2, fun l hl => by rw [hB9]; exact h3 l hl, fun l hl w => ?_⟩
  have e : stopQ ns B' μ' (nI l) w ↔ stopQ ns B μ (nI l) w := by
    constructor
    · rintro ⟨k, k1, k2, k3⟩
      exact ⟨k, k1, by rw [← hB8]; exact k2, by rw [← hm (1920 + k) (by omega) (by omega)]; exact k3⟩
    · rintro ⟨k, k1, k2, k3⟩
      exact ⟨k, k1, by rw [hB8]; exact k2, by rw [hm (1920 + k) (by omega) (by omega)]; exact k3⟩
  rw [e, rl_keep hl (fun a h1 h2 => hm a (by omega) h2) (nr l) 0 (by have := (h3 l hl).2; omega)]
  exact h4 l hl w
theorem menv.keepw {I : Nat → Int32} {B B' : Nat → Nat → Int32} {μ : Nat → List Nat} {E : Nat → List Nat → Option (List Nat)} {a : Nat} {w : List Nat} (h : menv I B μ E) (hs : wsame B B') (ha : 3968 ≤ a) : menv I B' (va_up μ a w) E :=
  h.keep rfl (hs 8 (by omega)) (hs 9 (by omega)) (fun c _ h2 => va_up_ne _ _ (by omega))
/-- whether a word's stem is v (begins with v) -/
def hasQ (f : Int32) (o : Option (List Nat)) (v : List Nat) : Prop := ∃ u, o = some u ∧ ((f = 0 ∧ u = v) ∨ (f = 1 ∧ begP u v))
/-- how many of the first n numbers are such -/
noncomputable def cnt (P : Nat → Prop) : Nat → Nat
  | 0 => 0
  | n + 1 => cnt P n + @ite _ (P n) (Classical.propDecidable _) 1 0
theorem cnt_le (P : Nat → Prop) : ∀ n, cnt P n ≤ n
  | 0 => Nat.le_refl _
  | n + 1 => by
    have := cnt_le P n
    simp only [cnt]
    split <;> omega
theorem cnt_t {P : Nat → Prop} {n : Nat} (h : P n) : cnt P (n + 1) = cnt P n + 1 := by
  simp only [cnt]
  rw [if_pos h]
theorem cnt_f {P : Nat → Prop} {n : Nat} (h : ¬ P n) : cnt P (n + 1) = cnt P n := by
  simp only [cnt]
  rw [if_neg h]
  rfl
section MHAS
variable {T : Nat → am_C} {D : List am_C} {I : Nat → Int32} {S : Nat → Int64} {E : Nat → List Nat → Option (List Nat)}
theorem c_isStop_E {B : Nat → Nat → Int32} {μ : Nat → List Nat} (hw : wm B μ) (hE : menv I B μ E) {a l : Nat} (ha : a < 6034) (hl : l < 3) : Do m_Mo_isStop [.ref 48, .int (nI l), .int (nI a)] (hM T I B S D) (fun r h' => r = some (.int (b01 (E l (μ a) = none))) ∧ h' = hM T I B S D) := by
  obtain ⟨ns, nr, h1, h2, h3, h4⟩ := hE
  refine (c_isStop hw ha h1 h2).mono fun r h' h => ?_
  have e : E l (μ a) = none ↔ stopQ ns B μ (nI l) (μ a) := by
    constructor
    · intro q
      refine Classical.not_not.mp fun q2 => ?_
      rw [(h4 l hl (μ a)).2 q2] at q
      cases q
    · exact (h4 l hl (μ a)).1
  rw [b01_iff e]
  exact h
theorem c_stemTo_E {B : Nat → Nat → Int32} {μ : Nat → List Nat} (hw : wm B μ) (hE : menv I B μ E) {l a to : Nat} {u : List Nat} (hl : l < 3) (ha : a < 6034) (ht : to < 6034) (hat : a ≠ to) (hto : 3968 ≤ to) (hu : E l (μ a) = some u) :
    Do m_Mo_stemTo [.ref 48, .int (nI l), .int (nI a), .int (nI to)] (hM T I B S D) (fun r' h' => r' = none ∧ ∃ B', h' = hM T I B' S D ∧ wsame B B' ∧ wm B' (va_up μ to u)) := by
  obtain ⟨ns, nr, h1, h2, h3, h4⟩ := hE
  refine (c_stemTo hw hl ha ht hat (Or.inr hto) (h3 l hl).1 (h3 l hl).2).mono fun r h' h => ?_
  have e : stemF (rl μ l 0 (nr l)) (μ a) = u := by
    by_cases q : stopQ ns B μ (nI l) (μ a)
    · rw [(h4 l hl (μ a)).1 q] at hu; cases hu
    · rw [(h4 l hl (μ a)).2 q] at hu; exact Option.some.inj hu
  rw [e] at h
  exact h
theorem c_hasAt {B : Nat → Nat → Int32} {μ : Nat → List Nat} (hw : wm B μ) (hE : menv I B μ E) {t l p a : Nat} {f : Int32} (ht : t < 40) (hp : p < 48) (hl : l < 3) (htl : B 3 t = nI l) (ha : a < 6034) (ha2 : a ≠ 6032) (hf : f = 0 ∨ f = 1) :
    Do m_Mo_hasAt [.ref 48, .int (nI t), .int (nI p), .int (nI a), .int f] (hM T I B S D) (fun r h' => r = some (.int (b01 (hasQ f (E l (μ (48 * t + p))) (μ a)))) ∧ ∃ B' w, h' = hM T I B' S D ∧ wsame B B' ∧ wm B' (va_up μ 6032 w)) := by
  have ct : (nI t).toNatClampNeg = t := nI_clamp (by omega)
  have e48 : (48 : Int32) * nI t + nI p = nI (48 * t + p) := by
    rw [show (48 : Int32) = nI 48 from rfl, pk_mul, nI_add]
  iterate 5 refine go_s rfl rfl rfl trivial ?_
  rw [e48]
  iterate 5 refine go_s rfl rfl rfl trivial ?_
  refine go_s rfl rfl rfl ?_ ?_
  · exact vp_in_nI ht (by omega)
  simp only [ct, htl]
  iterate 1 refine go_s rfl rfl rfl trivial ?_
  refine go_c rfl rfl rfl (c_isStop_E hw hE (a := 48 * t + p) (by omega) hl) ?_
  rintro r h3 ⟨rfl, rfl⟩
  iterate 1 refine go_s rfl rfl rfl trivial ?_
  refine go_if (fun hc => ?_) (fun hc => ?_)
  · have hn : ¬ E l (μ (48 * t + p)) = none := b01_eq0.mp hc
    obtain ⟨u, hu⟩ : ∃ u, E l (μ (48 * t + p)) = some u := by
      cases q : E l (μ (48 * t + p)) with
      | none => exact absurd q hn
      | some u => exact ⟨u, rfl⟩
    iterate 4 refine go_s rfl rfl rfl trivial ?_
    refine go_s rfl rfl rfl ?_ ?_
    · exact vp_in_nI ht (by omega)
    simp only [ct, htl]
    iterate 2 refine go_s rfl rfl rfl trivial ?_
    refine go_c rfl rfl rfl (c_stemTo_E hw hE hl (a := 48 * t + p) (to := 6032) (by omega) (by omega) (by omega) (by omega) hu) ?_
    rintro r h3 ⟨rfl, B1, rfl, hs1, hw1⟩
    have e1 : va_up μ 6032 u a = μ a := va_up_ne _ _ ha2
    have e2 : va_up μ 6032 u 6032 = u := va_up_self _ _ _
    iterate 2 refine go_s rfl rfl rfl trivial ?_
    rcases hf with rfl | rfl
    · refine go_if (fun hc => ?_) (fun hc => ?_)
      · iterate 3 refine go_s rfl rfl rfl trivial ?_
        refine go_c rfl rfl rfl (c_same hw1 (a := 6032) (b := a) (by omega) ha) ?_
        rintro r h3 ⟨rfl, rfl⟩
        refine go_r rfl rfl rfl (b01_g _) ⟨?_, B1, u, rfl, hs1, hw1⟩
        rw [e1, e2, hu]
        refine congrArg (fun z => some (Value.int z)) (b01_iff ⟨fun q => ⟨u, rfl, Or.inl ⟨rfl, q⟩⟩, fun ⟨u', q1, q2⟩ => ?_⟩)
        cases q1
        rcases q2 with ⟨-, q⟩ | ⟨q, -⟩
        · exact q
        · exact absurd q (by decide)
      · exact absurd rfl hc
    · refine go_if (fun hc => ?_) (fun hc => ?_)
      · exact absurd hc (by decide)
      · iterate 3 refine go_s rfl rfl rfl trivial ?_
        refine go_c rfl rfl rfl (c_beginsSo hw1 (a := 6032) (b := a) (by omega) ha) ?_
        rintro r h3 ⟨rfl, rfl⟩
        iterate 1 refine go_s rfl rfl rfl trivial ?_
        refine go_r rfl rfl rfl (b01_g _) ⟨?_, B1, u, rfl, hs1, hw1⟩
        rw [e1, e2, hu]
        refine congrArg (fun z => some (Value.int z)) (b01_iff ⟨fun q => ⟨u, rfl, Or.inr ⟨rfl, q⟩⟩, fun ⟨u', q1, q2⟩ => ?_⟩)
        cases q1
        rcases q2 with ⟨q, -⟩ | ⟨-, q⟩
        · exact absurd q (by decide)
        · exact q
  · have hn : E l (μ (48 * t + p)) = none := Classical.not_not.mp fun q => hc (b01_f q)
    iterate 1 refine go_s rfl rfl rfl trivial ?_
    refine go_r rfl rfl rfl (Or.inl rfl) ⟨?_, B, μ 6032, rfl, wsame.rf B, by rw [up_id]; exact hw⟩
    rw [b01_f]
    rintro ⟨u, q1, -⟩
    rw [hn] at q1
    cases q1
theorem l_times {t l a c : Nat} {f : Int32} (ht : t < 40) (hl : l < 3) (ha : a < 6034) (ha2 : a ≠ 6032) (hf : f = 0 ∨ f = 1) (hc48 : c ≤ 48) {v : List Nat} {wd : Nat → List Nat} : ∀ (d p : Nat) (B : Nat → Nat → Int32) (μ : Nat → List Nat), wm B μ → menv I B μ E → B 3 t = nI l → B 5 t = nI c → μ a = v → (∀ j, j < c → μ (48 * t + j) = wd j) → c = p + d →
    Go m_Mo_times 6 [some (.ref 48), some (.int (nI t)), some (.int (nI a)), some (.int f), some (.int (nI (cnt (fun j => hasQ f (E l (wd j)) v) p))), some (.int (nI p))] [] (hM T I B S D) (fun r h' => r = some (.int (nI (cnt (fun j => hasQ f (E l (wd j)) v) c))) ∧ ∃ B' w, h' = hM T I B' S D ∧ wsame B B' ∧ wm B' (va_up μ 6032 w)) := by
  have ct : (nI t).toNatClampNeg = t := nI_clamp (by omega)
  intro d
  induction d with
  | zero =>
    intro p B μ hw hE htl hct hv hwd hk
    have hcl := cnt_le (fun j => hasQ f (E l (wd j)) v) p
    iterate 4 refine go_s rfl rfl rfl trivial ?_
    refine go_s rfl rfl rfl ?_ ?_
    · exact vp_in_nI ht (by omega)
    simp only [ct, hct]
    iterate 1 refine go_s rfl rfl rfl trivial ?_
    refine go_if (fun hc => ?_) (fun hc => ?_)
    · iterate 1 refine go_s rfl rfl rfl trivial ?_
      refine go_r rfl rfl rfl trivial ⟨by rw [hk]; rfl, B, μ 6032, rfl, wsame.rf B, by rw [up_id]; exact hw⟩
    · exact absurd (nI_le (by omega) (by omega)) hc
  | succ d ih =>
    intro p B μ hw hE htl hct hv hwd hk
    have hcl := cnt_le (fun j => hasQ f (E l (wd j)) v) p
    iterate 4 refine go_s rfl rfl rfl trivial ?_
    refine go_s rfl rfl rfl ?_ ?_
    · exact vp_in_nI ht (by omega)
    simp only [ct, hct]
    iterate 1 refine go_s rfl rfl rfl trivial ?_
    refine go_if (fun hc => ?_) (fun hc => ?_)
    · exact absurd hc (nI_ge (by omega) (by omega))
    · iterate 6 refine go_s rfl rfl rfl trivial ?_
      refine go_c rfl rfl rfl (c_hasAt hw hE ht (p := p) (by omega) hl htl ha ha2 hf) ?_
      rintro r h3 ⟨rfl, B1, w, rfl, hs1, hw1⟩
      rw [hwd p (by omega), hv]
      have hE1 : menv I B1 (va_up μ 6032 w) E := hE.keepw hs1 (by omega)
      have nx : ∀ (q : Int32), q = nI (cnt (fun j => hasQ f (E l (wd j)) v) (p + 1)) → Go m_Mo_times 6 [some (.ref 48), some (.int (nI t)), some (.int (nI a)), some (.int f), some (.int q), some (.int (nI (p + 1)))] [] (hM T I B1 S D) (fun r h' => r = some (.int (nI (cnt (fun j => hasQ f (E l (wd j)) v) c))) ∧ ∃ B' w, h' = hM T I B' S D ∧ wsame B B' ∧ wm B' (va_up μ 6032 w)) := by
        rintro q rfl
        refine (ih (p + 1) B1 _ hw1 hE1 ((congrFun (hs1 3 (by omega)) t).trans htl) ((congrFun (hs1 5 (by omega)) t).trans hct) ((va_up_ne _ _ ha2).trans hv) (fun j hj => (va_up_ne _ _ (by omega)).trans (hwd j hj)) (by omega)).mono fun rr h' h => ?_
        obtain ⟨g1, B2, w2, g2, g3, g4⟩ := h
        refine ⟨g1, B2, w2, g2, hs1.tr g3, ?_⟩
        rw [bx_uu] at g4
        exact g4
      iterate 1 refine go_s rfl rfl rfl trivial ?_
      refine go_if (fun hc => ?_) (fun hc => ?_)
      · have hn := b01_eq0.mp hc
        iterate 5 refine go_s rfl rfl rfl trivial ?_
        rw [nI_1]
        exact nx _ (by rw [cnt_f hn]; exact nI_add _ 0)
      · have hn : hasQ f (E l (wd p)) v := Classical.not_not.mp fun q => hc (b01_f q)
        iterate 6 refine go_s rfl rfl rfl trivial ?_
        rw [nI_1, nI_1]
        exact nx _ (by rw [cnt_t hn])
/-- how often a text has a stem -/
theorem c_times {B : Nat → Nat → Int32} {μ : Nat → List Nat} (hw : wm B μ) (hE : menv I B μ E) {t l a c : Nat} {f : Int32} (ht : t < 40) (hl : l < 3) (htl : B 3 t = nI l) (hct : B 5 t = nI c) (hc48 : c ≤ 48) (ha : a < 6034) (ha2 : a ≠ 6032) (hf : f = 0 ∨ f = 1) :
    Do m_Mo_times [.ref 48, .int (nI t), .int (nI a), .int f] (hM T I B S D) (fun r h' => r = some (.int (nI (cnt (fun j => hasQ f (E l (μ (48 * t + j))) (μ a)) c))) ∧ ∃ B' w, h' = hM T I B' S D ∧ wsame B B' ∧ wm B' (va_up μ 6032 w)) := by
  iterate 4 refine go_s rfl rfl rfl trivial ?_
  exact l_times ht hl ha ha2 hf hc48 (wd := fun j => μ (48 * t + j)) c 0 B μ hw hE htl hct rfl (fun _ _ => rfl) (by omega)
end MHAS
