/-! ===== readWords ===== -/
def bI (b : Bool) : Int32 := if b then 1 else 0
theorem wst_sz (tb : Nat → Nat) : ∀ k i, (wst tb k).2.2.2.2 i ≤ k
  | 0, _ => Nat.le_refl 0
  | k + 1, i => by
    have ih := wst_sz tb k
    have ihi := ih i
    have key : ∀ (g : Nat → Nat) (a x : Nat), g i ≤ k → x ≤ k + 1 → va_up g a x i ≤ k + 1 := by
      intro g a x h1 h2
      by_cases e : i = a
      · subst e; rw [va_up_self]; exact h2
      · rw [va_up_ne _ _ e]; omega
    have key2 : ∀ (z : wS) (b : Nat), (∀ j, z.2.2.2.2 j ≤ k) → (addS z b).2.2.2.2 i ≤ k + 1 := by
      intro z b h
      exact key _ _ _ (h i) (by have := h (z.1 - 1); omega)
    simp only [wst, stS]
    split
    · show (wst tb k).2.2.2.2 i ≤ k + 1
      omega
    · split
      · exact key2 _ _ ih
      · refine key2 _ _ fun j => ?_
        show va_up (wst tb k).2.2.2.2 (wst tb k).1 0 j ≤ k
        by_cases e : j = (wst tb k).1
        · subst e; rw [va_up_self]; omega
        · rw [va_up_ne _ _ e]; exact ih j
section MREAD2
variable {T : Nat → am_C} {D : List am_C} {S : Nat → Int64}
theorem mtape.keep {I I' : Nat → Int32} {B B' : Nat → Nat → Int32} {tb : Nat → Nat} {n : Nat} (h : mtape I B tb n) (h0 : I' 0 = I 0) (h2 : B' 2 = B 2) : mtape I' B' tb n := by
  obtain ⟨a1, a2, a3⟩ := h
  exact ⟨h0.trans a1, a2, fun j hj => by rw [h2]; exact a3 j hj⟩
theorem rwk.rf {I : Nat → Int32} {B : Nat → Nat → Int32} {μ : Nat → List Nat} (hw : wm B μ) : rwk I B μ I B μ := ⟨fun _ _ _ => rfl, fun _ _ _ _ => rfl, hw, fun _ _ => rfl⟩
theorem l_rw9 {tb : Nat → Nat} {n : Nat} : ∀ (d k : Nat) (I : Nat → Int32) (B : Nat → Nat → Int32) (μ : Nat → List Nat) (X3 : Option Value), wm B μ → mtape I B tb n → mtap I B μ (wst tb k) → n = k + d →
    Go m_Mo_readWords 9 [some (.ref 48), some (.int (bI (wst tb k).2.1)), some (.int (nI k)), X3] [] (hM T I B S D) (fun r h' => r = none ∧ ∃ I' B' μ', h' = hM T I' B' S D ∧ I' 0 = 0 ∧ mtap I' B' μ' (wst tb n) ∧ rwk I B μ I' B' μ') := by
  intro d
  induction d with
  | zero =>
    intro k I B μ X3 hw ht hm hk
    have ek : k = n := by omega
    subst ek
    iterate 3 refine go_s rfl rfl rfl trivial ?_
    rw [ht.1]
    iterate 1 refine go_s rfl rfl rfl trivial ?_
    refine go_if (fun hc => ?_) (fun hc => ?_)
    · iterate 3 refine go_s rfl rfl rfl trivial ?_
      refine go_r rfl rfl rfl trivial ⟨rfl, va_up I 0 0, B, μ, rfl, va_up_self _ _ _, ⟨?_, hm.2⟩, fun i h0 h4 => va_up_ne _ _ h0, fun _ _ _ _ => rfl, hw, fun _ _ => rfl⟩
      rw [va_up_ne _ _ (by decide)]
      exact hm.1
    · exact absurd (Int32.le_refl _) hc
  | succ d ih =>
    intro k I B μ X3 hw ht hm hk
    obtain ⟨t1, t2, t3⟩ := id ht
    obtain ⟨t4, t5⟩ := t3 k (by omega)
    have ck : (nI k).toNatClampNeg = k := nI_clamp (by omega)
    have hb := ltr_lt t5
    have hl1 := (wst_len tb k).1
    have hl2 := (wst_len tb k).2
    have hsz := wst_sz tb k
    have e0 : wst tb (k + 1) = stS (wst tb k) k (ltr (tb k)) := rfl
    iterate 3 refine go_s rfl rfl rfl trivial ?_
    rw [t1]
    iterate 1 refine go_s rfl rfl rfl trivial ?_
    refine go_if (fun hc => ?_) (fun hc => ?_)
    · exact absurd hc (nI_ge (by omega) (by omega))
    · iterate 3 refine go_s rfl rfl rfl trivial ?_
      refine go_s rfl rfl rfl ?_ ?_
      · exact vp_in_nI (by omega) (by omega)
      simp only [ck, t4]
      refine go_c rfl rfl rfl (c_letter _ _) ?_
      rintro r h3 ⟨rfl, rfl⟩
      rw [lteI_sb t5]
      iterate 3 refine go_s rfl rfl rfl trivial ?_
      refine go_if (fun hc => ?_) (fun hc => ?_)
      · have eb : ltr (tb k) = 0 := nI_inj (by omega) (by omega) hc
        rw [eb] at e0 ⊢
        iterate 2 refine go_s rfl rfl rfl trivial ?_
        refine go_if (fun hc => ?_) (fun hc => ?_)
        · iterate 4 refine go_s rfl rfl rfl trivial ?_
          refine go_if (fun hc => ?_) (fun hc => ?_)
          · exact absurd rfl hc
          · iterate 3 refine go_s rfl rfl rfl trivial ?_
            rw [nI_1]
            have e1 : wst tb (k + 1) = ((wst tb k).1, false, (wst tb k).2.2) := e0
            have := ih (k + 1) I B μ (some (.int (nI 0))) hw ht (by rw [e1]; exact hm) (by omega)
            rw [show (wst tb (k + 1)).2.1 = false by rw [e1]] at this
            exact this
        · exact absurd rfl hc
      · have eb : ¬ ltr (tb k) = 0 := fun q => hc (by rw [q]; rfl)
        iterate 1 refine go_s rfl rfl rfl trivial ?_
        have fin : ∀ (I1 : Nat → Int32) (B1 : Nat → Nat → Int32) (μ1 : Nat → List Nat) (z : wS), wm B1 μ1 → mtap I1 B1 μ1 z → rwk I B μ I1 B1 μ1 → I1 0 = I 0 → 1 ≤ z.1 → z.1 ≤ 48 → z.2.2.2.2 (z.1 - 1) < 1000 → wst tb (k + 1) = addS z (ltr (tb k)) →
            Go m_Mo_readWords 79 [some (.ref 48), some (.int (bI (wst tb k).2.1)), some (.int (nI k)), some (.int (nI (ltr (tb k))))] [] (hM T I1 B1 S D) (fun r h' => r = none ∧ ∃ I' B' μ', h' = hM T I' B' S D ∧ I' 0 = 0 ∧ mtap I' B' μ' (wst tb n) ∧ rwk I B μ I' B' μ') := by
          intro I1 B1 μ1 z hw1 hm1 hr1 hI0 hz1 hz2 hz3 ez
          iterate 2 refine go_s rfl rfl rfl trivial ?_
          refine go_if (fun hc => ?_) (fun hc => ?_)
          · exact absurd hc ‹_›
          · iterate 5 refine go_s rfl rfl rfl trivial ?_
            refine go_if (fun hc => ?_) (fun hc => ?_)
            · refine l_rw96 hw1 hm1 hz1 hz2 hb hz3 fun B2 μ2 hw2 hm2 hr2 => ?_
              have := ih (k + 1) I1 B2 μ2 (some (.int (nI (ltr (tb k))))) hw2 (ht.keep hI0 ?_) (by rw [ez]; exact hm2) (by omega)
              · rw [show (wst tb (k + 1)).2.1 = true by rw [ez]; rfl] at this
                refine Go.mono this fun r h' h => ?_
                obtain ⟨g1, I3, B3, μ3, g2, g3, g4, g5⟩ := h
                exact ⟨g1, I3, B3, μ3, g2, g3, g4, (hr1.tr hr2).tr g5⟩
              · rw [(hr1.tr hr2).2.1 2 (by decide) (by decide) (by decide)]
            · exact absurd (by decide) hc
        cases hin : (wst tb k).2.1 with
        | true =>
          rw [hin] at fin
          obtain ⟨q1, q2⟩ := hl1 hin
          iterate 1 refine go_s rfl rfl rfl trivial ?_
          refine go_if (fun hc => ?_) (fun hc => ?_)
          · refine fin I B μ (wst tb k) hw hm (rwk.rf hw) rfl (by omega) (by omega) (by have := hsz ((wst tb k).1 - 1); omega) ?_
            rw [e0, stS, if_neg eb, if_pos hin]
          · exact absurd (by decide) hc
        | false =>
          rw [hin] at fin
          have q1 := hl2 hin
          have e1 : (3968 : Int32) + nI (wst tb k).1 = nI (3968 + (wst tb k).1) := by
            rw [show (3968 : Int32) = nI 3968 from rfl, nI_add]
          have c1 : (nI (3968 + (wst tb k).1)).toNatClampNeg = 3968 + (wst tb k).1 := nI_clamp (by omega)
          have c2 : (nI (wst tb k).1).toNatClampNeg = (wst tb k).1 := nI_clamp (by omega)
          iterate 1 refine go_s rfl rfl rfl trivial ?_
          refine go_if (fun hc => ?_) (fun hc => ?_)
          · exact absurd rfl hc
          · iterate 7 refine go_s rfl rfl rfl trivial ?_
            rw [hm.1, e1]
            refine go_s rfl rfl rfl ?_ ?_
            · exact vp_in_nI (by omega) (by omega)
            simp only [c1]
            iterate 5 refine go_s rfl rfl rfl trivial ?_
            rw [hm.1]
            refine go_s rfl rfl rfl ?_ ?_
            · exact vp_in_nI (by omega) (by omega)
            simp only [c2]
            iterate 5 refine go_s rfl rfl rfl trivial ?_
            rw [hm.1]
            refine go_s rfl rfl rfl ?_ ?_
            · exact vp_in_nI (by omega) (by omega)
            simp only [c2]
            iterate 6 refine go_s rfl rfl rfl trivial ?_
            rw [hm.1, nI_1]
            have k1 : ∀ i, i ≠ 1 → i ≠ 10 → i ≠ 11 → va_up (va_up (va_up B 1 (upd (B 1) (3968 + (wst tb k).1) 0)) 10 (upd (B 10) (wst tb k).1 (nI k))) 11 (upd (B 11) (wst tb k).1 0) i = B i := fun i a b c => by
              rw [va_up_ne _ _ c, va_up_ne _ _ b, va_up_ne _ _ a]
            have hw1 : wm (va_up (va_up (va_up B 1 (upd (B 1) (3968 + (wst tb k).1) 0)) 10 (upd (B 10) (wst tb k).1 (nI k))) 11 (upd (B 11) (wst tb k).1 0)) (va_up μ (3968 + (wst tb k).1) []) := wm_len0 hw (by omega) rfl rfl
            refine fin (va_up I 4 (nI ((wst tb k).1 + 1))) (va_up (va_up (va_up B 1 (upd (B 1) (3968 + (wst tb k).1) 0)) 10 (upd (B 10) (wst tb k).1 (nI k))) 11 (upd (B 11) (wst tb k).1 0)) (va_up μ (3968 + (wst tb k).1) []) (newS (wst tb k) k) hw1 ⟨va_up_self _ _ _, fun i hi => ?_⟩ ⟨fun i _ h4 => va_up_ne _ _ h4, fun i h2 h10 h11 => k1 i (by omega) h10 h11, hw1, fun a ha => va_up_ne _ _ (by omega)⟩ (va_up_ne _ _ (by decide)) (Nat.le_add_left 1 _) ?_ ?_ ?_
            · have hi' : i < (wst tb k).1 + 1 := hi
              by_cases ei : i = (wst tb k).1
              · subst ei
                refine ⟨?_, ?_, ?_⟩
                · rw [va_up_self]
                  exact (va_up_self _ _ _).symm
                · rw [va_up_ne _ _ (by decide), va_up_self, pk_us]
                  exact congrArg nI (va_up_self _ _ _).symm
                · rw [va_up_self, pk_us]
                  show _ = nI (va_up (wst tb k).2.2.2.2 (wst tb k).1 0 (wst tb k).1)
                  rw [va_up_self]
                  rfl
              · obtain ⟨y1, y2, y3⟩ := hm.2 i (by omega)
                refine ⟨?_, ?_, ?_⟩
                · rw [va_up_ne _ _ (by omega), y1]
                  exact (va_up_ne _ _ ei).symm
                · rw [va_up_ne _ _ (by decide), va_up_self, pk_un ei, y2]
                  exact congrArg nI (va_up_ne _ _ ei).symm
                · rw [va_up_self, pk_un ei, y3]
                  exact congrArg nI (va_up_ne _ _ ei).symm
            · show (wst tb k).1 + 1 ≤ 48
              omega
            · show va_up (wst tb k).2.2.2.2 (wst tb k).1 0 ((wst tb k).1 + 1 - 1) < 1000
              rw [Nat.add_sub_cancel, va_up_self]
              omega
            · rw [e0, stS, if_neg eb, if_neg (by rw [hin]; decide)]
theorem c_readWords {I : Nat → Int32} {B : Nat → Nat → Int32} {μ : Nat → List Nat} {tb : Nat → Nat} {n : Nat} (hw : wm B μ) (ht : mtape I B tb n) : Do m_Mo_readWords [.ref 48] (hM T I B S D) (fun r h' => r = none ∧ ∃ I' B' μ', h' = hM T I' B' S D ∧ I' 0 = 0 ∧ mtap I' B' μ' (wst tb n) ∧ rwk I B μ I' B' μ') := by
  iterate 7 refine go_s rfl rfl rfl trivial ?_
  refine Go.mono (l_rw9 (T := T) (D := D) (S := S) n 0 (va_up I 4 0) B μ none hw (ht.keep (va_up_ne _ _ (by decide)) rfl) ⟨va_up_self _ _ _, fun i hi => absurd hi (Nat.not_lt_zero i)⟩ (by omega)) fun r h' h => ?_
  obtain ⟨g1, I3, B3, μ3, g2, g3, g4, g5⟩ := h
  exact ⟨g1, I3, B3, μ3, g2, g3, g4, fun i h0 h4 => (g5.1 i h0 h4).trans (va_up_ne _ _ h4), g5.2⟩
end MREAD2
