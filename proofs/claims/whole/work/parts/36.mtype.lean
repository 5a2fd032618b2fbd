/-! ===== the reference: type ===== -/
/-- byte k of a long, from the lowest on -/
def byI (v : Int64) (k : Nat) : Nat := v.toBitVec.toNat / 2 ^ (8 * k) % 2 ^ 8
theorem byI_lt (v : Int64) (k : Nat) : byI v k < 256 := Nat.mod_lt _ (by decide)
theorem byI_sb (v : Int64) {k : Nat} (hk : k < 8) : vp_nar .byte (v >>> ((8 * nI k).toInt64 &&& 63)).toInt32.toInt8.toInt32 = sbI (byI v k) := by
  have hs : ((((8 * nI k).toInt64 &&& 63) : Int64).toBitVec.smod 64).toNat = 8 * k := by
    have : ∀ k, k < 8 → ((((8 * nI k).toInt64 &&& 63) : Int64).toBitVec.smod 64).toNat = 8 * k := by decide +kernel
    exact this k hk
  have e : (v >>> ((8 * nI k).toInt64 &&& 63)).toInt32.toInt8 = (nI (byI v k)).toInt8 := by
    apply Int8.toBitVec_inj.mp
    rw [Int32.toBitVec_toInt8, Int32.toBitVec_toInt8, Int64.toBitVec_toInt32, Int64.toBitVec_shiftRight]
    apply BitVec.eq_of_getLsbD_eq
    intro i hi
    have hn : (nI (byI v k)).toBitVec = BitVec.ofNat 32 (byI v k) := rfl
    have h1 : 8 * k + i < 64 := by omega
    have h2 : i < 32 := by omega
    have h3 : ¬ 64 ≤ i := by omega
    have h4 : i + 8 * k < 64 := by omega
    rw [hn]
    rw [BitVec.sshiftRight', hs, BitVec.getLsbD_signExtend, BitVec.getLsbD_signExtend, BitVec.getLsbD_signExtend, BitVec.getLsbD_ofNat, BitVec.getLsbD_sshiftRight, byI, Nat.testBit_mod_two_pow, Nat.testBit_div_two_pow]
    simp [h1, h2, h3, h4, hi, BitVec.getLsbD, Nat.add_comm]
  have h : ∀ z : Int32, vp_nar .byte z.toInt8.toInt32 = z.toInt8.toInt32 := fun z => by
    rw [vp_nar, pk_nb]
  rw [sbI, ← e]
  exact h _

def tapF (tb : Nat → Nat) (n c : Nat) (v : Int64) (j : Nat) : Nat := if j < n then tb j else byI v (n + c - 1 - j)
noncomputable def spType (Z : tx_Z) (v : Int64) (c : Int32) : Int32 × tx_Z := ifp (1 ≤ c ∧ c ≤ 8) (if 96 < (zP Z).2 + c.toNatClampNeg then (-3, Z) else (nI ((zP Z).2 + c.toNatClampNeg), ((tapF (zP Z).1 (zP Z).2 c.toNatClampNeg v, (zP Z).2 + c.toNatClampNeg), Z.2))) (-1, Z)
section MTYPE
variable {T : Nat → am_C} {D : List am_C} {S : Nat → Int64}
theorem l_type32 {Z : tx_Z} {v : Int64} {tb : Nat → Nat} {n c : Nat} (hn : n + c ≤ 96) (hc8 : c ≤ 8) : ∀ (d m : Nat) (I : Nat → Int32) (B : Nat → Nat → Int32) (μ : Nat → List Nat), tx_m ((tapF tb n c v, m), Z.2) I B S μ → m + d = n + c → n ≤ m →
    Go m_Mo_type 32 [some (.ref 48), some (.long v), none, some (.int (nI c)), some (.int (nI d + -1))] [] (hM T I B S D) (fun r h' => r = some (.int (nI (n + c))) ∧ ∃ I' B' μ', h' = hM T I' B' S D ∧ tx_m ((tapF tb n c v, n + c), Z.2) I' B' S μ') := by
  intro d
  induction d with
  | zero =>
    intro m I B μ hZ hd hm
    have em : m = n + c := by omega
    subst em
    iterate 2 refine go_s rfl rfl rfl trivial ?_
    refine go_if (fun hc => ?_) (fun hc => ?_)
    · iterate 2 refine go_s rfl rfl rfl trivial ?_
      exact go_r rfl rfl rfl trivial ⟨by rw [← show I 0 = nI (n + c) from hZ.2.1.1], I, B, μ, rfl, hZ⟩
    · exact absurd (by decide) hc
  | succ d ih =>
    intro m I B μ hZ hd hm
    obtain ⟨h1, h2, h3, h4, h5, h6, h7⟩ := id hZ
    have e0 : I 0 = nI m := h2.1
    have cm : (nI m).toNatClampNeg = m := nI_clamp (by omega)
    rw [pk_m1]
    iterate 2 refine go_s rfl rfl rfl trivial ?_
    refine go_if (fun hc => ?_) (fun hc => ?_)
    · exact absurd hc (nI_pos (by omega))
    · iterate 11 refine go_s rfl rfl rfl trivial ?_
      rw [e0]
      refine go_s rfl rfl rfl ?_ ?_
      · exact vp_in_nI (by omega) (by omega)
      rw [byI_sb v (by omega)]
      simp only [cm]
      iterate 5 refine go_s rfl rfl rfl trivial ?_
      rw [e0, nI_1]
      iterate 3 refine go_s rfl rfl rfl trivial ?_
      refine ih (m + 1) (va_up I 0 (nI (m + 1))) (va_up B 2 (upd (B 2) m (sbI (byI v d)))) μ ⟨h1.keep2 rfl rfl, ⟨va_up_self _ _ _, by show m + 1 ≤ 96; omega, fun j hj => ?_⟩, h3.keep rfl rfl rfl (fun _ _ _ => rfl), h4.keep rfl rfl (fun i a b => va_up_ne _ _ (by omega)) (fun _ _ => rfl), h5.keep rfl rfl, h6.keep rfl (fun _ _ _ => rfl), h7.keep rfl rfl⟩ (by omega) (by omega)
      have hj' : j < m + 1 := hj
      rw [va_up_self]
      by_cases e : j = m
      · subst e
        rw [pk_us]
        have e2 : tapF tb n c v j = byI v d := by
          rw [tapF, if_neg (by omega), show n + c - 1 - j = d by omega]
        rw [show (zP ((tapF tb n c v, j + 1), Z.2)).1 j = tapF tb n c v j from rfl, e2]
        exact ⟨rfl, byI_lt v d⟩
      · rw [pk_un e]
        exact h2.2.2 j (by show j < m; omega)
theorem c_type {Z : tx_Z} {I : Nat → Int32} {B : Nat → Nat → Int32} {μ : Nat → List Nat} (hZ : tx_m Z I B S μ) (v : Int64) (c : Int32) : Do m_Mo_type [.ref 48, .long v, .int c] (hM T I B S D) (fun r h' => r = some (.int (spType Z v c).1) ∧ ∃ I' B' μ', h' = hM T I' B' S D ∧ tx_m (spType Z v c).2 I' B' S μ') := by
  have bad : ¬ (1 ≤ c ∧ c ≤ 8) → Go m_Mo_type 11 [some (.ref 48), some (.long v), none, some (.int c), none] [] (hM T I B S D) (fun r h' => r = some (.int (spType Z v c).1) ∧ ∃ I' B' μ', h' = hM T I' B' S D ∧ tx_m (spType Z v c).2 I' B' S μ') := by
    intro q
    rw [spType, ifp_f q]
    iterate 1 refine go_s rfl rfl rfl trivial ?_
    exact go_r rfl rfl rfl trivial ⟨rfl, I, B, μ, rfl, hZ⟩
  obtain ⟨h1, h2, h3, h4, h5, h6, h7⟩ := id hZ
  have e0 : I 0 = nI (zP Z).2 := h2.1
  have h96 : (zP Z).2 ≤ 96 := h2.2.1
  iterate 3 refine go_s rfl rfl rfl trivial ?_
  refine go_if (fun q1 => bad fun q => absurd q1 (Int32.not_lt.mpr q.1)) (fun q1 => ?_)
  iterate 3 refine go_s rfl rfl rfl trivial ?_
  refine go_if (fun q2 => ?_) (fun q2 => bad fun q => q2 q.2)
  have h1c : (1 : Int32) ≤ c := Int32.not_lt.mp q1
  have hc0 : ¬ c < 0 := fun q => q1 (Int32.lt_trans q (by decide))
  obtain ⟨k, hk, rfl⟩ := nI_of hc0
  have hk8 : k ≤ 8 := (nI_leI (b := 8) hk (by omega)).mp q2
  have hk1 : 1 ≤ k := (nI_leI (a := 1) (by omega) hk).mp h1c
  have ck : (nI k).toNatClampNeg = k := nI_clamp hk
  rw [spType, ifp_t ⟨h1c, q2⟩, ck]
  iterate 2 refine go_s rfl rfl rfl trivial ?_
  rw [e0]
  iterate 2 refine go_s rfl rfl rfl trivial ?_
  rw [nI_add]
  iterate 2 refine go_s rfl rfl rfl trivial ?_
  refine go_if (fun q3 => ?_) (fun q3 => ?_)
  · have h3' : (zP Z).2 + k ≤ 96 := (nI_leI (b := 96) (by omega) (by omega)).mp q3
    rw [if_neg (by omega)]
    iterate 4 refine go_s rfl rfl rfl trivial ?_
    rw [show nI k - 1 = nI k + -1 from Int32.sub_eq_add_neg _ _]
    have := l_type32 (T := T) (D := D) (S := S) (Z := Z) (v := v) (tb := (zP Z).1) (n := (zP Z).2) (c := k) h3' hk8 k (zP Z).2 I B μ ⟨h1, ⟨e0, h96, fun j hj => ?_⟩, h3, h4, h5, h6, h7⟩ rfl (Nat.le_refl _)
    · exact this
    · have e : tapF (zP Z).1 (zP Z).2 k v j = (zP Z).1 j := if_pos hj
      show B 2 j = sbI (tapF (zP Z).1 (zP Z).2 k v j) ∧ tapF (zP Z).1 (zP Z).2 k v j < 256
      rw [e]
      exact h2.2.2 j hj
  · have h3' : 96 < (zP Z).2 + k := Nat.lt_of_not_le fun q => q3 ((nI_leI (b := 96) (by omega) (by omega)).mpr q)
    rw [if_pos h3']
    iterate 1 refine go_s rfl rfl rfl trivial ?_
    exact go_r rfl rfl rfl trivial ⟨rfl, I, B, μ, rfl, hZ⟩
end MTYPE
