/-! ===== the words of the tape ===== -/
/-- what the first bytes of the tape hold: how many words, whether one is open, the words (of each the first 12 bytes), where they begin, how long they are -/
abbrev wS : Type := Nat × Bool × (Nat → List Nat) × (Nat → Nat) × (Nat → Nat)
def addw (w : List Nat) (b : Nat) : List Nat := if w.length = 12 then w else w ++ [b]
def newS (z : wS) (k : Nat) : wS := (z.1 + 1, true, va_up z.2.2.1 z.1 [], va_up z.2.2.2.1 z.1 k, va_up z.2.2.2.2 z.1 0)
def addS (z : wS) (b : Nat) : wS := (z.1, true, va_up z.2.2.1 (z.1 - 1) (addw (z.2.2.1 (z.1 - 1)) b), z.2.2.2.1, va_up z.2.2.2.2 (z.1 - 1) (z.2.2.2.2 (z.1 - 1) + 1))
def stS (z : wS) (k b : Nat) : wS := if b = 0 then (z.1, false, z.2.2) else if z.2.1 = true then addS z b else addS (newS z k) b
def wst (tb : Nat → Nat) : Nat → wS
  | 0 => (0, false, fun _ => [], fun _ => 0, fun _ => 0)
  | k + 1 => stS (wst tb k) k (ltr (tb k))
/-- two places for a word and what ends it -/
theorem wst_len (tb : Nat → Nat) : ∀ k, ((wst tb k).2.1 = true → 2 * (wst tb k).1 ≤ k + 1 ∧ 1 ≤ (wst tb k).1) ∧ ((wst tb k).2.1 = false → 2 * (wst tb k).1 ≤ k)
  | 0 => ⟨fun h => by simp [wst] at h, fun _ => Nat.le_refl 0⟩
  | k + 1 => by
    obtain ⟨i1, i2⟩ := wst_len tb k
    simp only [wst, stS]
    split
    · refine ⟨fun h => by simp at h, fun _ => ?_⟩
      show 2 * (wst tb k).1 ≤ k + 1
      cases h : (wst tb k).2.1 with
      | true => exact (i1 h).1
      | false => have := i2 h; omega
    · split
      · rename_i h
        refine ⟨fun _ => ?_, fun q => by simp [addS] at q⟩
        show 2 * (wst tb k).1 ≤ k + 1 + 1 ∧ 1 ≤ (wst tb k).1
        have := i1 h
        omega
      · rename_i h
        refine ⟨fun _ => ?_, fun q => by simp [addS] at q⟩
        show 2 * ((wst tb k).1 + 1) ≤ k + 1 + 1 ∧ 1 ≤ (wst tb k).1 + 1
        have := i2 (by simpa using h)
        omega
def mtap (I : Nat → Int32) (B : Nat → Nat → Int32) (μ : Nat → List Nat) (z : wS) : Prop := I 4 = nI z.1 ∧ ∀ i, i < z.1 → μ (3968 + i) = z.2.2.1 i ∧ B 10 i = nI (z.2.2.2.1 i) ∧ B 11 i = nI (z.2.2.2.2 i)
/-- the tape of the reference -/
def mtape (I : Nat → Int32) (B : Nat → Nat → Int32) (tb : Nat → Nat) (n : Nat) : Prop := I 0 = nI n ∧ n ≤ 96 ∧ ∀ j, j < n → B 2 j = sbI (tb j) ∧ tb j < 256
/-- what reading the words changes -/
def rwk (I : Nat → Int32) (B : Nat → Nat → Int32) (μ : Nat → List Nat) (I' : Nat → Int32) (B' : Nat → Nat → Int32) (μ' : Nat → List Nat) : Prop := (∀ i, i ≠ 0 → i ≠ 4 → I' i = I i) ∧ (∀ i, 2 ≤ i → i ≠ 10 → i ≠ 11 → B' i = B i) ∧ wm B' μ' ∧ ∀ a, a < 3968 ∨ 4016 ≤ a → μ' a = μ a
theorem rwk.tr {I I1 I2 : Nat → Int32} {B B1 B2 : Nat → Nat → Int32} {μ μ1 μ2 : Nat → List Nat} (h1 : rwk I B μ I1 B1 μ1) (h2 : rwk I1 B1 μ1 I2 B2 μ2) : rwk I B μ I2 B2 μ2 :=
  ⟨fun i a b => (h2.1 i a b).trans (h1.1 i a b), fun i a b c => (h2.2.1 i a b c).trans (h1.2.1 i a b c), h2.2.2.1, fun a ha => (h2.2.2.2 a ha).trans (h1.2.2.2 a ha)⟩
section MREAD
variable {T : Nat → am_C} {D : List am_C} {S : Nat → Int64} {Q : Option Value → List am_C → Prop}
/-- a byte comes to the open word -/
theorem l_rw96 {I : Nat → Int32} {B : Nat → Nat → Int32} {μ : Nat → List Nat} {z : wS} {k b : Nat} (hw : wm B μ) (hz : mtap I B μ z) (hz1 : 1 ≤ z.1) (hz2 : z.1 ≤ 48) (hb : b < 128) (hL : z.2.2.2.2 (z.1 - 1) < 1000)
    (kk : ∀ B' μ', wm B' μ' → mtap I B' μ' (addS z b) → rwk I B μ I B' μ' → Go m_Mo_readWords 9 [some (.ref 48), some (.int 1), some (.int (nI (k + 1))), some (.int (nI b))] [] (hM T I B' S D) Q) :
    Go m_Mo_readWords 96 [some (.ref 48), some (.int 1), some (.int (nI k)), some (.int (nI b))] [] (hM T I B S D) Q := by
  obtain ⟨z1, z2⟩ := hz
  have e1 : (3968 : Int32) + nI z.1 - 1 = nI (3968 + (z.1 - 1)) := by
    rw [show (3968 : Int32) = nI 3968 from rfl, nI_add, show (1 : Int32) = nI 1 from rfl, pk_sub (by omega), show 3968 + z.1 - 1 = 3968 + (z.1 - 1) by omega]
  have e2 : nI z.1 - 1 = nI (z.1 - 1) := by
    rw [show (1 : Int32) = nI 1 from rfl, pk_sub (by omega)]
  have cz : (nI (z.1 - 1)).toNatClampNeg = z.1 - 1 := nI_clamp (by omega)
  iterate 8 refine go_s rfl rfl rfl trivial ?_
  rw [z1, e1]
  refine go_c rfl rfl rfl (c_add hw (a := 3968 + (z.1 - 1)) (by omega) hb) ?_
  rintro r h3 ⟨rfl, B1, rfl, hs1, hw1⟩
  iterate 7 refine go_s rfl rfl rfl trivial ?_
  rw [z1, e2]
  refine go_s rfl rfl rfl ?_ ?_
  · exact vp_in_nI (by omega) (by omega)
  iterate 2 refine go_s rfl rfl rfl trivial ?_
  refine go_s rfl rfl rfl ?_ ?_
  · exact vp_in_nI (by omega) (by omega)
  simp only [cz]
  iterate 2 refine go_s rfl rfl rfl trivial ?_
  rw [nI_1]
  have hlast := z2 (z.1 - 1) (by omega)
  have h11 : B1 11 (z.1 - 1) + 1 = nI (z.2.2.2.2 (z.1 - 1) + 1) := by rw [hs1 11 (by omega), hlast.2.2, nI_1]
  have k01 : ∀ i, i ≠ 11 → va_up B1 11 (upd (B1 11) (z.1 - 1) (B1 11 (z.1 - 1) + 1)) i = B1 i := fun i hi => va_up_ne _ _ hi
  refine kk (va_up B1 11 (upd (B1 11) (z.1 - 1) (B1 11 (z.1 - 1) + 1))) _ (hw1.keep2 (k01 0 (by decide)) (k01 1 (by decide))) ⟨z1, fun i hi => ?_⟩ ⟨fun _ _ _ => rfl, fun i h2 h10 h11 => (k01 i h11).trans (hs1 i h2), hw1.keep2 (k01 0 (by decide)) (k01 1 (by decide)), fun a ha => va_up_ne _ _ (by omega)⟩
  have hi' : i < z.1 := hi
  by_cases ei : i = z.1 - 1
  · subst ei
    refine ⟨?_, ?_, ?_⟩
    · rw [va_up_self]
      show _ = va_up z.2.2.1 (z.1 - 1) (addw (z.2.2.1 (z.1 - 1)) b) (z.1 - 1)
      rw [va_up_self, hlast.1]
      rfl
    · rw [k01 10 (by decide), hs1 10 (by omega)]
      exact hlast.2.1
    · rw [va_up_self, pk_us, h11]
      show _ = nI (va_up z.2.2.2.2 (z.1 - 1) (z.2.2.2.2 (z.1 - 1) + 1) (z.1 - 1))
      rw [va_up_self]
  · obtain ⟨y1, y2, y3⟩ := z2 i hi'
    refine ⟨?_, ?_, ?_⟩
    · rw [va_up_ne _ _ (by omega), y1]
      exact (va_up_ne _ _ ei).symm
    · rw [k01 10 (by decide), hs1 10 (by omega)]
      exact y2
    · rw [va_up_self, pk_un ei, hs1 11 (by omega), y3]
      exact congrArg nI (va_up_ne _ _ ei).symm
end MREAD
