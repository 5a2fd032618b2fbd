/-! ===== the reference: like ===== -/
abbrev tx_K : Type := Nat × (Nat → List Nat) × (Nat → Nat)
def lvd (w h : List Nat) : Nat := lev w h w.length h.length
theorem lvd_le {w h : List Nat} (hw : w.length ≤ 12) (hh : h.length ≤ 12) : lvd w h ≤ 24 := by
  have := lev_le w h w.length h.length
  rw [lvd]
  omega
def lkB (d : Nat) (w : List Nat) (ws : Nat → List Nat) (ch : Nat → Nat) (j : Nat) : Prop := d < ch j ∨ (ch j = d ∧ ltW w (ws j))
noncomputable def insK (A : tx_K) (w : List Nat) (d : Nat) : tx_K := (A.1 + 1, inF A.2.1 (psF (lkB d w A.2.1 A.2.2) A.1) w, inF A.2.2 (psF (lkB d w A.2.1 A.2.2) A.1) d)
def lkC (E : Nat → List Nat → Option (List Nat)) (l : Nat) (h : List Nat) (m : Int32) (A : tx_K) (w : List Nat) : Prop := nI (lvd w h) ≤ m ∧ ¬ E l w = none ∧ ¬ ∃ j, j < A.1 ∧ A.2.1 j = w
noncomputable def lkS (E : Nat → List Nat → Option (List Nat)) (l : Nat) (h : List Nat) (m : Int32) (A : tx_K) (w : List Nat) : tx_K := ifp (lkC E l h m A w) (insK A w (lvd w h)) A
noncomputable def lkG (E : Nat → List Nat → Option (List Nat)) (l : Nat) (h : List Nat) (m : Int32) (wd : Nat → List Nat) (A : tx_K) : Nat → tx_K
  | 0 => A
  | p + 1 => lkS E l h m (lkG E l h m wd A p) (wd p)
noncomputable def lkF (E : Nat → List Nat → Option (List Nat)) (X : tx_X) (l : Nat) (h : List Nat) (m : Int32) : Nat → tx_K
  | 0 => (0, fun _ => [], fun _ => 0)
  | t + 1 => ifp (xlg X t = some l) (lkG E l h m (xwd X t) (lkF E X l h m t) (xcn X t)) (lkF E X l h m t)
theorem lkS_le (E : Nat → List Nat → Option (List Nat)) (l : Nat) (h : List Nat) (m : Int32) (A : tx_K) (w : List Nat) : (lkS E l h m A w).1 ≤ A.1 + 1 := by
  rw [lkS]
  by_cases q : lkC E l h m A w
  · rw [ifp_t q]; exact Nat.le_refl _
  · rw [ifp_f q]; omega
theorem lkG_le (E : Nat → List Nat → Option (List Nat)) (l : Nat) (h : List Nat) (m : Int32) (wd : Nat → List Nat) (A : tx_K) : ∀ p, (lkG E l h m wd A p).1 ≤ A.1 + p
  | 0 => Nat.le_refl _
  | p + 1 => by
    have := lkG_le E l h m wd A p
    have := lkS_le E l h m (lkG E l h m wd A p) (wd p)
    rw [lkG]
    omega
theorem lkF_le (E : Nat → List Nat → Option (List Nat)) (X : tx_X) (l : Nat) (h : List Nat) (m : Int32) : ∀ t, (lkF E X l h m t).1 ≤ sumN (xcn X) t
  | 0 => Nat.le_refl _
  | t + 1 => by
    have := lkF_le E X l h m t
    rw [lkF, sumN]
    by_cases q : xlg X t = some l
    · rw [ifp_t q]
      have := lkG_le E l h m (xwd X t) (lkF E X l h m t) (xcn X t)
      omega
    · rw [ifp_f q]; omega
noncomputable def spLike (Z : tx_Z) (x m : Int32) : Int32 × tx_Z := ifp (isL x ∧ 0 ≤ m ∧ m ≤ 3) (if (zw Z).1 = 0 then (-2, (((zP Z).1, 0), zN Z, zX Z, zA Z, (0, fun _ => []), zS Z))
  else (nI (lkF (nE (zN Z)) (zX Z) x.toNatClampNeg ((zw Z).2.2.1 0) m (xnt (zX Z))).1, (((zP Z).1, 0), zN Z, zX Z, zA Z, ((lkF (nE (zN Z)) (zX Z) x.toNatClampNeg ((zw Z).2.2.1 0) m (xnt (zX Z))).1, (lkF (nE (zN Z)) (zX Z) x.toNatClampNeg ((zw Z).2.2.1 0) m (xnt (zX Z))).2.1), zS Z))) (-1, Z)
/-- what an insertion changes -/
def lkR (B : Nat → Nat → Int32) (μ : Nat → List Nat) (B' : Nat → Nat → Int32) (μ' : Nat → List Nat) : Prop := (∀ i, 2 ≤ i → i ≠ 17 → B' i = B i) ∧ wm B' μ' ∧ ∀ a, a < 4112 ∨ 6032 ≤ a → μ' a = μ a
section MLIKE2
variable {T : Nat → am_C} {D : List am_C} {S : Nat → Int64} {K : Option Value → List am_C → Prop}
theorem l_lk135 {I : Nat → Int32} {l0 m0 t0 p0 : Int32} {a d : Nat} {w : List Nat} {A : tx_K} {B0 : Nat → Nat → Int32} {μ0 : Nat → List Nat} (ha : a < 1920) (hA : A.1 < 1920) (hd : d ≤ 24) (hch : ∀ j, j < A.1 → A.2.2 j ≤ 24) (hw0 : μ0 a = w) : ∀ (to : Nat) (B : Nat → Nat → Int32) (μ : Nat → List Nat), lkR B0 μ0 B μ → to ≤ A.1 → gap A.2.1 (fun i => μ (4112 + i)) to A.1 → gap (fun i => nI (A.2.2 i)) (B 17) to A.1 → psF (lkB d w A.2.1 A.2.2) to = psF (lkB d w A.2.1 A.2.2) A.1 →
    (∀ (B' : Nat → Nat → Int32) (μ' : Nat → List Nat), lkR B0 μ0 B' μ' → gap A.2.1 (fun i => μ' (4112 + i)) (psF (lkB d w A.2.1 A.2.2) A.1) A.1 → gap (fun i => nI (A.2.2 i)) (B' 17) (psF (lkB d w A.2.1 A.2.2) A.1) A.1 →
      Go m_Mo_like 225 [some (.ref 48), some (.int l0), some (.int m0), some (.int t0), some (.int p0), some (.int (nI a)), some (.int (nI d)), some (.int (nI (psF (lkB d w A.2.1 A.2.2) A.1)))] [] (hM T I B' S D) K) →
    Go m_Mo_like 135 [some (.ref 48), some (.int l0), some (.int m0), some (.int t0), some (.int p0), some (.int (nI a)), some (.int (nI d)), some (.int (nI to))] [] (hM T I B S D) K := by
  intro to
  induction to with
  | zero =>
    intro B μ hr hto g1 g2 hp kk
    have e0 : psF (lkB d w A.2.1 A.2.2) 0 = 0 := rfl
    rw [e0] at hp
    rw [← hp] at kk
    iterate 2 refine go_s rfl rfl rfl trivial ?_
    exact go_if (fun _ => kk B μ hr g1 g2) (fun hc => absurd (by decide) hc)
  | succ n ih =>
    intro B μ hr hto g1 g2 hp kk
    obtain ⟨r1, r2, r3⟩ := id hr
    have cn : (nI n).toNatClampNeg = n := nI_clamp (by omega)
    have cn1 : (nI (n + 1)).toNatClampNeg = n + 1 := nI_clamp (by omega)
    have eB : B 17 n = nI (A.2.2 n) := g2.1 n (by omega)
    have eμ : μ (4112 + n) = A.2.1 n := g1.1 n (by omega)
    have ew : μ a = w := (r3 a (by omega)).trans hw0
    have hcn := hch n (by omega)
    have e41 : (4112 : Int32) + nI (n + 1) - 1 = nI (4112 + n) := by
      rw [show (4112 : Int32) = nI 4112 from rfl, show (1 : Int32) = nI 1 from rfl, nI_add, pk_sub (by omega)]
      congr 1
    have shift : lkB d w A.2.1 A.2.2 n → Go m_Mo_like 185 [some (.ref 48), some (.int l0), some (.int m0), some (.int t0), some (.int p0), some (.int (nI a)), some (.int (nI d)), some (.int (nI (n + 1)))] [] (hM T I B S D) K := by
      intro hb
      have ep : psF (lkB d w A.2.1 A.2.2) (n + 1) = psF (lkB d w A.2.1 A.2.2) n := by rw [psF, ifp_t hb]
      iterate 8 refine go_s rfl rfl rfl trivial ?_
      rw [nI_pred]
      refine go_s rfl rfl rfl ?_ ?_
      · exact vp_in_nI (by omega) (by omega)
      simp only [cn]
      refine go_s rfl rfl rfl ?_ ?_
      · exact vp_in_nI (by omega) (by omega)
      simp only [cn1]
      iterate 6 refine go_s rfl rfl rfl trivial ?_
      rw [e41]
      iterate 3 refine go_s rfl rfl rfl trivial ?_
      rw [e4112]
      have hw1 : wm (va_up B 17 (upd (B 17) (n + 1) (B 17 n))) μ := r2.keep2 rfl rfl
      refine go_c rfl rfl rfl (c_copy hw1 (a := 4112 + n) (b := 4112 + (n + 1)) (by omega) (by omega) (by omega)) ?_
      rintro r h0 ⟨rfl, B2, rfl, hs2, hw2⟩
      iterate 2 refine go_s rfl rfl rfl trivial ?_
      rw [pk_m1]
      have k17 : B2 17 = upd (B 17) (n + 1) (B 17 n) := (hs2 17 (by decide)).trans (va_up_self _ _ _)
      refine ih B2 _ ⟨fun i h2 h17 => (hs2 i h2).trans ((va_up_ne _ _ h17).trans (r1 i h2 h17)), hw2, fun x hx => (va_up_ne _ _ (by omega)).trans (r3 x hx)⟩ (by omega) ?_ ?_ (by rw [← ep]; exact hp) kk
      · refine g1.step ?_ (fun i hi => ?_)
        · exact va_up_self _ _ _
        · exact va_up_ne _ _ (by omega)
      · refine g2.step ?_ (fun i hi => ?_)
        · rw [k17, pk_us]
        · rw [k17, pk_un hi]
    have stop : ¬ lkB d w A.2.1 A.2.2 n → Go m_Mo_like 225 [some (.ref 48), some (.int l0), some (.int m0), some (.int t0), some (.int p0), some (.int (nI a)), some (.int (nI d)), some (.int (nI (n + 1)))] [] (hM T I B S D) K := by
      intro hb
      have ep : psF (lkB d w A.2.1 A.2.2) (n + 1) = n + 1 := by rw [psF, ifp_f hb]
      rw [ep] at hp
      rw [← hp] at kk
      exact kk B μ hr g1 g2
    iterate 2 refine go_s rfl rfl rfl trivial ?_
    refine go_if (fun hc => absurd hc (nI_nle (by omega) (by omega))) (fun _ => ?_)
    iterate 5 refine go_s rfl rfl rfl trivial ?_
    rw [nI_pred]
    refine go_s rfl rfl rfl ?_ ?_
    · exact vp_in_nI (by omega) (by omega)
    simp only [cn, eB]
    iterate 2 refine go_s rfl rfl rfl trivial ?_
    refine go_if (fun hc => ?_) (fun hc => ?_)
    · exact shift (Or.inl ((nI_ltI (by omega) (by omega)).mp hc))
    · have hge : ¬ d < A.2.2 n := fun q => hc ((nI_ltI (by omega) (by omega)).mpr q)
      iterate 5 refine go_s rfl rfl rfl trivial ?_
      rw [nI_pred]
      refine go_s rfl rfl rfl ?_ ?_
      · exact vp_in_nI (by omega) (by omega)
      simp only [cn, eB]
      iterate 2 refine go_s rfl rfl rfl trivial ?_
      refine go_if (fun hc1 => ?_) (fun hc1 => ?_)
      · exact stop (fun q => q.elim hge (fun q => hc1 (by rw [q.1])))
      · have hed : A.2.2 n = d := nI_inj (by omega) (by omega) (Classical.not_not.mp hc1)
        iterate 7 refine go_s rfl rfl rfl trivial ?_
        rw [e41]
        refine go_c rfl rfl rfl (c_isBefore r2 (a := a) (b := 4112 + n) (by omega) (by omega)) ?_
        rintro r h0 ⟨rfl, rfl⟩
        rw [ew, eμ]
        iterate 1 refine go_s rfl rfl rfl trivial ?_
        refine go_if (fun hc2 => ?_) (fun hc2 => ?_)
        · exact stop (fun q => q.elim hge (fun q => b01_eq0.mp hc2 q.2))
        · exact shift (Or.inr ⟨hed, Classical.not_not.mp fun q => hc2 (b01_f q)⟩)
def lkT (Z : tx_Z) (h : List Nat) (A : tx_K) (I : Nat → Int32) (B : Nat → Nat → Int32) (S : Nat → Int64) (μ : Nat → List Nat) : Prop := tx_m (((zP Z).1, 0), zN Z, zX Z, zA Z, (A.1, A.2.1), zS Z) I B S μ ∧ μ 6032 = h ∧ ∀ j, j < A.1 → B 17 j = nI (A.2.2 j) ∧ A.2.2 j ≤ 24
theorem l_lk60 {Z : tx_Z} {l t : Nat} {h : List Nat} {m : Int32} {A0 : tx_K} (hl : l < 3) (ht : t < xnt (zX Z)) (htl : xlg (zX Z) t = some l) (hA0 : A0.1 ≤ 48 * t) : ∀ (d p : Nat) (X5 X6 X7 : Option Value) (I : Nat → Int32) (B : Nat → Nat → Int32) (μ : Nat → List Nat), lkT Z h (lkG (nE (zN Z)) l h m (xwd (zX Z) t) A0 p) I B S μ → xcn (zX Z) t = p + d →
    (∀ X4 X5 X6 X7 I B μ, lkT Z h (lkG (nE (zN Z)) l h m (xwd (zX Z) t) A0 (xcn (zX Z) t)) I B S μ → Go m_Mo_like 262 [some (.ref 48), some (.int (nI l)), some (.int m), some (.int (nI t)), X4, X5, X6, X7] [] (hM T I B S D) K) →
    Go m_Mo_like 60 [some (.ref 48), some (.int (nI l)), some (.int m), some (.int (nI t)), some (.int (nI p)), X5, X6, X7] [] (hM T I B S D) K := by
  intro d
  induction d with
  | zero =>
    intro p X5 X6 X7 I B μ hs hd kk
    obtain ⟨x1, x2, x3⟩ := hs.1.2.2.2.1.1
    obtain ⟨k1, k2, k3, k4, k5, k6, k7⟩ := x3 t ht
    have x2 : xnt (zX Z) ≤ 40 := x2
    have k5 : B 5 t = nI (xcn (zX Z) t) := k5
    have k6 : xcn (zX Z) t ≤ 48 := k6
    have ct : (nI t).toNatClampNeg = t := nI_clamp (by omega)
    have ep : p = xcn (zX Z) t := by omega
    subst ep
    iterate 4 refine go_s rfl rfl rfl trivial ?_
    refine go_s rfl rfl rfl ?_ ?_
    · exact vp_in_nI (by omega) (by omega)
    simp only [ct, k5]
    iterate 1 refine go_s rfl rfl rfl trivial ?_
    refine go_if (fun _ => ?_) (fun hc => absurd (Int32.le_refl _) hc)
    exact kk _ _ _ _ I B μ hs
  | succ d ih =>
    intro p X5 X6 X7 I B μ hs hd kk
    obtain ⟨h1, h2, h3, h4, h5, h6, h7⟩ := id hs.1
    obtain ⟨x1, x2, x3⟩ := h4.1
    obtain ⟨k1, k2, k3, k4, k5, k6, k7⟩ := x3 t ht
    have y2 : xnt (zX Z) ≤ 40 := x2
    have y1 : B 3 t = nI l := Eq.trans (b := lgI (xlg (zX Z) t)) k1 (by rw [htl]; rfl)
    have y5 : B 5 t = nI (xcn (zX Z) t) := k5
    have y6 : xcn (zX Z) t ≤ 48 := k6
    have y7 : μ (48 * t + p) = xwd (zX Z) t p := k7 p (by show p < xcn (zX Z) t; omega)
    clear k1 k2 k3 k4 k5 k6 k7 x1 x2 x3
    have ct : (nI t).toNatClampNeg = t := nI_clamp (by omega)
    have e48 : (48 : Int32) * nI t + nI p = nI (48 * t + p) := by
      rw [show (48 : Int32) = nI 48 from rfl, pk_mul, nI_add]
    have hle := lkG_le (nE (zN Z)) l h m (xwd (zX Z) t) A0 p
    have eG : lkG (nE (zN Z)) l h m (xwd (zX Z) t) A0 (p + 1) = lkS (nE (zN Z)) l h m (lkG (nE (zN Z)) l h m (xwd (zX Z) t) A0 p) (xwd (zX Z) t p) := rfl
    have next : ∀ Y5 Y6 Y7 I' B' μ', lkT Z h (lkG (nE (zN Z)) l h m (xwd (zX Z) t) A0 (p + 1)) I' B' S μ' → Go m_Mo_like 256 [some (.ref 48), some (.int (nI l)), some (.int m), some (.int (nI t)), some (.int (nI p)), Y5, Y6, Y7] [] (hM T I' B' S D) K := by
      intro Y5 Y6 Y7 I' B' μ' hs'
      iterate 2 refine go_s rfl rfl rfl trivial ?_
      rw [nI_1]
      exact ih (p + 1) Y5 Y6 Y7 I' B' μ' hs' (by omega) kk
    generalize hA : lkG (nE (zN Z)) l h m (xwd (zX Z) t) A0 p = A at *
    have skip : ¬ lkC (nE (zN Z)) l h m A (xwd (zX Z) t p) → lkG (nE (zN Z)) l h m (xwd (zX Z) t) A0 (p + 1) = A := fun q => by rw [eG, lkS, ifp_f q]
    have w12 : (xwd (zX Z) t p).length ≤ 12 := by rw [← y7]; exact (h1 (48 * t + p) (by omega)).1
    have hh12 : h.length ≤ 12 := by rw [← hs.2.1]; exact (h1 6032 (by omega)).1
    have hd24 : lvd (xwd (zX Z) t p) h ≤ 24 := lvd_le w12 hh12
    iterate 4 refine go_s rfl rfl rfl trivial ?_
    refine go_s rfl rfl rfl ?_ ?_
    · exact vp_in_nI (by omega) (by omega)
    simp only [ct, y5]
    iterate 1 refine go_s rfl rfl rfl trivial ?_
    refine go_if (fun hc => absurd hc (nI_ge (by omega) (by omega))) (fun _ => ?_)
    iterate 3 refine go_s rfl rfl rfl trivial ?_
    refine go_s rfl rfl rfl ?_ ?_
    · exact vp_in_nI (by omega) (by omega)
    simp only [ct, y1]
    iterate 2 refine go_s rfl rfl rfl trivial ?_
    refine go_if (fun hc => absurd rfl hc) (fun _ => ?_)
    iterate 5 refine go_s rfl rfl rfl trivial ?_
    rw [e48]
    iterate 4 refine go_s rfl rfl rfl trivial ?_
    refine go_c rfl rfl rfl (c_distance h1 (a := 48 * t + p) (b := 6032) (by omega) (by omega)) ?_
    rintro r h0 ⟨rfl, B1, rfl, hB1⟩
    rw [y7, hs.2.1]
    change Go m_Mo_like 99 _ [.int (nI (lvd (xwd (zX Z) t p) h))] _ _
    have hs1 : lkT Z h A I B1 S μ := ⟨⟨h1.keep2 (hB1 0 (by decide)) (hB1 1 (by decide)), h2.keep rfl (hB1 2 (by decide)), h3.keep rfl (hB1 8 (by decide)) (hB1 9 (by decide)) (fun _ _ _ => rfl), h4.keep rfl rfl (fun i a b => hB1 i (by omega)) (fun _ _ => rfl), h5.keep rfl (hB1 16 (by decide)), h6.keep rfl (fun _ _ _ => rfl), h7.keep rfl (hB1 18 (by decide))⟩, hs.2.1, fun j hj => by rw [hB1 17 (by decide)]; exact hs.2.2 j hj⟩
    iterate 4 refine go_s rfl rfl rfl trivial ?_
    refine go_if (fun hc => ?_) (fun hc => ?_)
    · exact next _ _ _ I B1 μ (by rw [skip (fun q => Int32.not_lt.mpr q.1 hc)]; exact hs1)
    · obtain ⟨j1, j2, j3, j4, j5, j6, j7⟩ := id hs1.1
      iterate 3 refine go_s rfl rfl rfl trivial ?_
      refine go_c rfl rfl rfl (c_isStop_E j1 j3.env (a := 48 * t + p) (by omega) hl) ?_
      rintro r h0 ⟨rfl, rfl⟩
      rw [y7]
      iterate 1 refine go_s rfl rfl rfl trivial ?_
      refine go_if (fun hc1 => ?_) (fun hc1 => ?_)
      · have hn : nE (zN Z) l (xwd (zX Z) t p) = none := Classical.not_not.mp fun q => hc1 (b01_f q)
        exact next _ _ _ I B1 μ (by rw [skip (fun q => q.2.1 hn)]; exact hs1)
      · have hn : ¬ nE (zN Z) l (xwd (zX Z) t p) = none := b01_eq0.mp (Classical.not_not.mp hc1)
        obtain ⟨u1, u2, u3⟩ := j6
        have u1 : I 10 = nI A.1 := u1
        have u3 : ∀ i, i < A.1 → μ (4112 + i) = A.2.1 i := u3
        iterate 2 refine go_s rfl rfl rfl trivial ?_
        refine go_c rfl rfl rfl (c_isLiked j1 (a := 48 * t + p) (n := A.1) (by omega) u1 (by omega)) ?_
        rintro r h0 ⟨rfl, rfl⟩
        rw [y7]
        have hex : (∃ j, j < A.1 ∧ μ (4112 + j) = xwd (zX Z) t p) ↔ ∃ j, j < A.1 ∧ A.2.1 j = xwd (zX Z) t p :=
          ⟨fun ⟨j, a, b⟩ => ⟨j, a, by rw [← u3 j a]; exact b⟩, fun ⟨j, a, b⟩ => ⟨j, a, by rw [u3 j a]; exact b⟩⟩
        rw [b01_iff hex]
        iterate 1 refine go_s rfl rfl rfl trivial ?_
        refine go_if (fun hc2 => ?_) (fun hc2 => ?_)
        · have hno := b01_eq0.mp hc2
          have hC : lkC (nE (zN Z)) l h m A (xwd (zX Z) t p) := ⟨Int32.not_lt.mp hc, hn, hno⟩
          rw [lkS, ifp_t hC] at eG
          iterate 2 refine go_s rfl rfl rfl trivial ?_
          rw [u1]
          iterate 1 refine go_s rfl rfl rfl trivial ?_
          refine l_lk135 (A := A) (d := lvd (xwd (zX Z) t p) h) (w := xwd (zX Z) t p) (B0 := B1) (μ0 := μ) (by omega) (by omega) hd24 (fun j hj => (hs.2.2 j hj).2) y7 A.1 B1 μ ⟨fun _ _ _ => rfl, j1, fun _ _ => rfl⟩ (Nat.le_refl _) ⟨u3, fun i a b => by omega⟩ ⟨fun i hi => (hs1.2.2 i hi).1, fun i a b => by omega⟩ rfl (fun B2 μ2 hr g1 g2 => ?_)
          obtain ⟨r1, r2, r3⟩ := id hr
          have hp := psF_le (lkB (lvd (xwd (zX Z) t p) h) (xwd (zX Z) t p) A.2.1 A.2.2) A.1
          generalize hpe : psF (lkB (lvd (xwd (zX Z) t p) h) (xwd (zX Z) t p) A.2.1 A.2.2) A.1 = q at *
          have cq : (nI q).toNatClampNeg = q := nI_clamp (by omega)
          have y7' : μ2 (48 * t + p) = xwd (zX Z) t p := (r3 _ (by omega)).trans y7
          iterate 4 refine go_s rfl rfl rfl trivial ?_
          refine go_s rfl rfl rfl ?_ ?_
          · exact vp_in_nI (by omega) (by omega)
          simp only [cq]
          iterate 5 refine go_s rfl rfl rfl trivial ?_
          rw [e4112]
          have hw3 : wm (va_up B2 17 (upd (B2 17) q (nI (lvd (xwd (zX Z) t p) h)))) μ2 := r2.keep2 rfl rfl
          refine go_c rfl rfl rfl (c_copy hw3 (a := 48 * t + p) (b := 4112 + q) (by omega) (by omega) (by omega)) ?_
          rintro r h0 ⟨rfl, B4, rfl, hs4, hw4⟩
          rw [y7'] at hw4
          iterate 3 refine go_s rfl rfl rfl trivial ?_
          rw [u1]
          iterate 2 refine go_s rfl rfl rfl trivial ?_
          rw [nI_1]
          iterate 1 refine go_s rfl rfl rfl trivial ?_
          have k17 : B4 17 = upd (B2 17) q (nI (lvd (xwd (zX Z) t p) h)) := (hs4 17 (by decide)).trans (va_up_self _ _ _)
          have kB : ∀ i, 2 ≤ i → i ≠ 17 → B4 i = B1 i := fun i a b => (hs4 i a).trans ((va_up_ne _ _ b).trans (r1 i a b))
          have kμ : ∀ x, x < 4112 ∨ 6032 ≤ x → va_up μ2 (4112 + q) (xwd (zX Z) t p) x = μ x := fun x hx => (va_up_ne _ _ (by omega)).trans (r3 x hx)
          refine next _ _ _ (va_up I 10 (nI (A.1 + 1))) B4 (va_up μ2 (4112 + q) (xwd (zX Z) t p)) ⟨⟨hw4, j2.keep rfl (kB 2 (by decide) (by decide)), j3.keep rfl (kB 8 (by decide) (by decide)) (kB 9 (by decide) (by decide)) (fun a _ b => kμ a (by omega)), j4.keep rfl rfl (fun i a b => kB i (by omega) (by omega)) (fun a b => kμ a (by omega)), j5.keep rfl (kB 16 (by decide) (by decide)), ?_, j7.keep rfl (kB 18 (by decide) (by decide))⟩, (kμ 6032 (by omega)).trans hs.2.1, fun j hj => ?_⟩
          · rw [eG]
            refine ⟨va_up_self _ _ _, by show A.1 + 1 ≤ 1920; omega, fun i hi => ?_⟩
            have := g1.fill (g' := fun i => va_up μ2 (4112 + q) (xwd (zX Z) t p) (4112 + i)) (v := xwd (zX Z) t p) (va_up_self _ _ _) (fun i hi => va_up_ne _ _ (by omega)) i hi
            rw [this]
            show inF A.2.1 q (xwd (zX Z) t p) i = inF A.2.1 (psF (lkB (lvd (xwd (zX Z) t p) h) (xwd (zX Z) t p) A.2.1 A.2.2) A.1) (xwd (zX Z) t p) i
            rw [hpe]
          · rw [eG] at hj ⊢
            have := g2.fill (g' := B4 17) (v := nI (lvd (xwd (zX Z) t p) h)) (by rw [k17, pk_us]) (fun i hi => by rw [k17, pk_un hi]) j hj
            rw [this]
            show inF (fun i => nI (A.2.2 i)) q (nI (lvd (xwd (zX Z) t p) h)) j = nI (inF A.2.2 (psF (lkB (lvd (xwd (zX Z) t p) h) (xwd (zX Z) t p) A.2.1 A.2.2) A.1) (lvd (xwd (zX Z) t p) h) j) ∧ inF A.2.2 (psF (lkB (lvd (xwd (zX Z) t p) h) (xwd (zX Z) t p) A.2.1 A.2.2) A.1) (lvd (xwd (zX Z) t p) h) j ≤ 24
            rw [hpe]
            have hj' : j < A.1 + 1 := hj
            simp only [inF]
            split
            · exact ⟨rfl, (hs.2.2 j (by omega)).2⟩
            · split
              · exact ⟨rfl, hd24⟩
              · exact ⟨rfl, (hs.2.2 (j - 1) (by omega)).2⟩
        · have hyes := Classical.not_not.mp fun q => hc2 (b01_f q)
          iterate 1 refine go_s rfl rfl rfl trivial ?_
          exact next _ _ _ I B1 μ (by rw [skip (fun q => q.2.2 hyes)]; exact hs1)
theorem l_lk49 {Z : tx_Z} {l : Nat} {h : List Nat} {m : Int32} (hl : l < 3) : ∀ (d t : Nat) (X4 X5 X6 X7 : Option Value) (I : Nat → Int32) (B : Nat → Nat → Int32) (μ : Nat → List Nat), lkT Z h (lkF (nE (zN Z)) (zX Z) l h m t) I B S μ → xnt (zX Z) = t + d →
    Go m_Mo_like 49 [some (.ref 48), some (.int (nI l)), some (.int m), some (.int (nI t)), X4, X5, X6, X7] [] (hM T I B S D) (fun r h' => r = some (.int (nI (lkF (nE (zN Z)) (zX Z) l h m (xnt (zX Z))).1)) ∧ ∃ I' B' μ', h' = hM T I' B' S D ∧ lkT Z h (lkF (nE (zN Z)) (zX Z) l h m (xnt (zX Z))) I' B' S μ') := by
  intro d
  induction d with
  | zero =>
    intro t X4 X5 X6 X7 I B μ hs hd
    have x1 : I 1 = nI (xnt (zX Z)) := hs.1.2.2.2.1.1.1
    have u1 : I 10 = nI (lkF (nE (zN Z)) (zX Z) l h m t).1 := hs.1.2.2.2.2.2.1.1
    have et : t = xnt (zX Z) := by omega
    subst et
    iterate 3 refine go_s rfl rfl rfl trivial ?_
    rw [x1]
    iterate 1 refine go_s rfl rfl rfl trivial ?_
    refine go_if (fun _ => ?_) (fun hc => absurd (Int32.le_refl _) hc)
    iterate 2 refine go_s rfl rfl rfl trivial ?_
    exact go_r rfl rfl rfl trivial ⟨by rw [← u1], I, B, μ, rfl, hs⟩
  | succ d ih =>
    intro t X4 X5 X6 X7 I B μ hs hd
    obtain ⟨x1, x2, x3⟩ := hs.1.2.2.2.1.1
    have x1 : I 1 = nI (xnt (zX Z)) := x1
    have x2 : xnt (zX Z) ≤ 40 := x2
    obtain ⟨k1, k2, k3, k4, k5, k6, k7⟩ := x3 t (by show t < xnt (zX Z); omega)
    have k1 : B 3 t = lgI (xlg (zX Z) t) := k1
    have k5 : B 5 t = nI (xcn (zX Z) t) := k5
    have k6 : xcn (zX Z) t ≤ 48 := k6
    have k2 : ∀ k, xlg (zX Z) t = some k → k < 3 := k2
    have ct : (nI t).toNatClampNeg = t := nI_clamp (by omega)
    have next : ∀ Y4 Y5 Y6 Y7 I' B' μ', lkT Z h (lkF (nE (zN Z)) (zX Z) l h m (t + 1)) I' B' S μ' → Go m_Mo_like 262 [some (.ref 48), some (.int (nI l)), some (.int m), some (.int (nI t)), Y4, Y5, Y6, Y7] [] (hM T I' B' S D) (fun r h' => r = some (.int (nI (lkF (nE (zN Z)) (zX Z) l h m (xnt (zX Z))).1)) ∧ ∃ I' B' μ', h' = hM T I' B' S D ∧ lkT Z h (lkF (nE (zN Z)) (zX Z) l h m (xnt (zX Z))) I' B' S μ') := by
      intro Y4 Y5 Y6 Y7 I' B' μ' hs'
      iterate 2 refine go_s rfl rfl rfl trivial ?_
      rw [nI_1]
      exact ih (t + 1) Y4 Y5 Y6 Y7 I' B' μ' hs' (by omega)
    iterate 3 refine go_s rfl rfl rfl trivial ?_
    rw [x1]
    iterate 1 refine go_s rfl rfl rfl trivial ?_
    refine go_if (fun hc => absurd hc (nI_ge (by omega) (by omega))) (fun _ => ?_)
    iterate 2 refine go_s rfl rfl rfl trivial ?_
    by_cases htl : xlg (zX Z) t = some l
    · have eF : lkF (nE (zN Z)) (zX Z) l h m (t + 1) = lkG (nE (zN Z)) l h m (xwd (zX Z) t) (lkF (nE (zN Z)) (zX Z) l h m t) (xcn (zX Z) t) := by rw [lkF, ifp_t htl]
      have hle := lkF_le (nE (zN Z)) (zX Z) l h m t
      have hsum : sumN (xcn (zX Z)) t ≤ 48 * t := sumN_le t (fun j hj => (x3 j (by show j < xnt (zX Z); omega)).2.2.2.2.2.1)
      exact l_lk60 hl (by omega) htl (by omega) (xcn (zX Z) t) 0 X5 X6 X7 I B μ hs (by omega) (fun Y4 Y5 Y6 Y7 I' B' μ' hs' => next Y4 Y5 Y6 Y7 I' B' μ' (by rw [eF]; exact hs'))
    · have eF : lkF (nE (zN Z)) (zX Z) l h m (t + 1) = lkF (nE (zN Z)) (zX Z) l h m t := by rw [lkF, ifp_f htl]
      have hs' : lkT Z h (lkF (nE (zN Z)) (zX Z) l h m (t + 1)) I B S μ := by rw [eF]; exact hs
      iterate 4 refine go_s rfl rfl rfl trivial ?_
      refine go_s rfl rfl rfl ?_ ?_
      · exact vp_in_nI (by omega) (by omega)
      simp only [ct, k5]
      iterate 1 refine go_s rfl rfl rfl trivial ?_
      refine go_if (fun _ => next _ _ _ _ I B μ hs') (fun _ => ?_)
      iterate 3 refine go_s rfl rfl rfl trivial ?_
      refine go_s rfl rfl rfl ?_ ?_
      · exact vp_in_nI (by omega) (by omega)
      simp only [ct, k1]
      iterate 2 refine go_s rfl rfl rfl trivial ?_
      refine go_if (fun _ => next _ _ _ _ I B μ hs') (fun hc => absurd ((lgI_eq hl k2).mp (Classical.not_not.mp hc)) htl)
theorem c_like {Z : tx_Z} {I : Nat → Int32} {B : Nat → Nat → Int32} {μ : Nat → List Nat} (hZ : tx_m Z I B S μ) (x m : Int32) : Do m_Mo_like [.ref 48, .int x, .int m] (hM T I B S D) (fun r h' => r = some (.int (spLike Z x m).1) ∧ ∃ I' B' μ', h' = hM T I' B' S D ∧ tx_m (spLike Z x m).2 I' B' S μ') := by
  have bad : ¬ (isL x ∧ 0 ≤ m ∧ m ≤ 3) → Go m_Mo_like 16 [some (.ref 48), some (.int x), some (.int m), none, none, none, none, none] [] (hM T I B S D) (fun r h' => r = some (.int (spLike Z x m).1) ∧ ∃ I' B' μ', h' = hM T I' B' S D ∧ tx_m (spLike Z x m).2 I' B' S μ') := by
    intro q
    rw [spLike, ifp_f q]
    iterate 1 refine go_s rfl rfl rfl trivial ?_
    exact go_r rfl rfl rfl trivial ⟨rfl, I, B, μ, rfl, hZ⟩
  iterate 1 refine go_s rfl rfl rfl trivial ?_
  refine go_c rfl rfl rfl (c_isLanguage _ x) ?_
  rintro r h0 ⟨rfl, rfl⟩
  iterate 1 refine go_s rfl rfl rfl trivial ?_
  refine go_if (fun hc => bad fun q => b01_eq0.mp hc q.1) (fun hc => ?_)
  have hq : isL x := Classical.not_not.mp fun q => hc (b01_f q)
  iterate 2 refine go_s rfl rfl rfl trivial ?_
  refine go_if (fun hc1 => bad fun q => Int32.not_lt.mpr q.2.1 hc1) (fun hc1 => ?_)
  iterate 3 refine go_s rfl rfl rfl trivial ?_
  refine go_if (fun hc2 => ?_) (fun hc2 => bad fun q => hc2 q.2.2)
  obtain ⟨l, hl, rfl⟩ := isL_nat hq
  have cl : (nI l).toNatClampNeg = l := nI_clamp (by omega)
  rw [spLike, ifp_t ⟨hq, Int32.not_lt.mp hc1, hc2⟩, cl]
  iterate 1 refine go_s rfl rfl rfl trivial ?_
  refine go_c rfl rfl rfl (c_readWords hZ.1 hZ.2.1) ?_
  rintro r h0 ⟨rfl, I1, B1, μ1, rfl, hI0, hm1, hr1⟩
  have hZ1 := l_rdZ hZ hI0 hr1
  have hz48 := zw48 hZ.2.1.2.1
  obtain ⟨h1, h2, h3, h4, h5, h6, h7⟩ := id hZ1
  have e4 : I1 4 = nI (zw Z).1 := hm1.1
  iterate 3 refine go_s rfl rfl rfl trivial ?_
  change Go m_Mo_like 27 _ _ (hM T (va_up I1 10 0) B1 S D) _
  have hZ2 : tx_m (((zP Z).1, 0), zN Z, zX Z, zA Z, (0, fun _ => []), zS Z) (va_up I1 10 0) B1 S μ1 := ⟨h1, h2.keep rfl rfl, h3.keep rfl rfl rfl (fun _ _ _ => rfl), h4.keep rfl rfl (fun _ _ _ => rfl) (fun _ _ => rfl), h5.keep rfl rfl, ⟨rfl, Nat.zero_le _, fun i hi => absurd hi (Nat.not_lt_zero i)⟩, h7.keep rfl rfl⟩
  iterate 2 refine go_s rfl rfl rfl trivial ?_
  rw [show va_up I1 10 0 4 = nI (zw Z).1 from (va_up_ne _ _ (by decide)).trans e4]
  iterate 1 refine go_s rfl rfl rfl trivial ?_
  refine go_if (fun hc3 => ?_) (fun hc3 => ?_)
  · have hne : ¬ (zw Z).1 = 0 := fun q => hc3 (by rw [q]; rfl)
    rw [if_neg hne]
    have ew : μ1 3968 = (zw Z).2.2.1 0 := (hm1.2 0 (by show 0 < (zw Z).1; omega)).1
    iterate 3 refine go_s rfl rfl rfl trivial ?_
    refine go_c rfl rfl rfl (c_copy hZ2.1 (a := 3968) (b := 6032) (by omega) (by omega) (by omega)) ?_
    rintro r h0 ⟨rfl, B2, rfl, hs2, hw2⟩
    rw [ew] at hw2
    iterate 2 refine go_s rfl rfl rfl trivial ?_
    refine Go.mono (l_lk49 (T := T) (D := D) (S := S) (Z := Z) (l := l) (h := (zw Z).2.2.1 0) (m := m) hl (xnt (zX Z)) 0 none none none none (va_up I1 10 0) B2 (va_up μ1 6032 ((zw Z).2.2.1 0)) ⟨hZ2.keepc hs2 hw2 (fun a ha => va_up_ne _ _ (by omega)), va_up_self _ _ _, fun j hj => absurd hj (Nat.not_lt_zero j)⟩ (by omega)) fun r h' g => ?_
    obtain ⟨g1, I3, B3, μ3, g2, g3⟩ := g
    exact ⟨g1, I3, B3, μ3, g2, g3.1⟩
  · have he : (zw Z).1 = 0 := nI_inj (by omega) (by omega) (Classical.not_not.mp hc3)
    rw [if_pos he]
    iterate 1 refine go_s rfl rfl rfl trivial ?_
    exact go_r rfl rfl rfl trivial ⟨rfl, va_up I1 10 0, B1, μ1, rfl, hZ2⟩
end MLIKE2
