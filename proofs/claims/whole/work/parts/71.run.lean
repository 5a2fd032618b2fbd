/-! ===== the law runs to its end ===== -/
theorem sz_ar (L d : Nat) : 0 + (0 + (0 + (0 + (0 + (L + (7 + (6 + (96 + (48 + (48 + (48 + (3 + (6 + (8 + (8 + (32 + (6 + (8 + (8 + (32 + (6 + (8 + (8 + (32 + (10 + (40 + (40 + (40 + (41 + (400 + (400 + (400 + (400 + (9 + (3 + (48 + (48 + (48 + (3 + (40 + (40 + (7 + (400 + (400 + (12 + (12 + (13 + (33 + (72408 + (6034 + (96 + (40 + (40 + (40 + (1920 + (1920 + (2000 + (3 + (48 + (48 + (96 + (96 + (96 + (96 + (40 + (40 + (1920 + (12 + (169 + (d)))))))))))))))))))))))))))))))))))))))))))))))))))))))))))))))))))))) = L + 90467 + d := by omega
theorem sz_hp0 {T M : Nat → am_C} {D : List am_C} : am_sz (am_hp T M D) = am_z (T 0) + (am_z (T 1) + (am_z (T 2) + (am_z (T 3) + (am_z (T 4) + (am_z (T 5) + (am_z (T 6) + (am_z (T 7) + (am_z (T 8) + (am_z (T 9) + (am_z (T 10) + (am_z (T 11) + (am_z (T 12) + (am_z (T 13) + (am_z (T 14) + (am_z (T 15) + (am_z (T 16) + (am_z (T 17) + (am_z (T 18) + (am_z (T 19) + (am_z (T 20) + (am_z (T 21) + (am_z (T 22) + (am_z (T 23) + (am_z (T 24) + (am_z (T 25) + (am_z (T 26) + (am_z (T 27) + (am_z (T 28) + (am_z (T 29) + (am_z (T 30) + (am_z (T 31) + (am_z (T 32) + (am_z (T 33) + (am_z (T 34) + (am_z (T 35) + (am_z (T 36) + (am_z (T 37) + (am_z (T 38) + (am_z (T 39) + (am_z (T 40) + (am_z (T 41) + (am_z (T 42) + (am_z (T 43) + (am_z (T 44) + (am_z (T 45) + (am_z (T 46) + (am_z (T 47) + (am_z (M 0) + (am_z (M 1) + (am_z (M 2) + (am_z (M 3) + (am_z (M 4) + (am_z (M 5) + (am_z (M 6) + (am_z (M 7) + (am_z (M 8) + (am_z (M 9) + (am_z (M 10) + (am_z (M 11) + (am_z (M 12) + (am_z (M 13) + (am_z (M 14) + (am_z (M 15) + (am_z (M 16) + (am_z (M 17) + (am_z (M 18) + (am_z (M 19) + (am_z (M 20) + (am_z (M 21) + (am_sz D)))))))))))))))))))))))))))))))))))))))))))))))))))))))))))))))))))))) := by
  simp only [am_sz, am_hp, List.map_cons, List.sum_cons]
theorem sz_hp {L : Nat} {xs : Nat → Int32} {J : Nat → Int32} {N : Nat → Nat → Int32} {G : Nat → Nat → Int64} {U : Int64} {p : Nat → Nat} {D : List am_C} {I : Nat → Int32} {B : Nat → Nat → Int32} {S : Nat → Int64} : am_sz (am_hp (am_TC L xs J N G U p) (am_M I B S) D) = am_sz (am_h0 L xs) + 90467 + am_sz D := by
  have h0 : am_sz (am_h0 L xs) = L := by simp [am_sz, am_h0, am_z]
  have a0 : am_z (am_TC L xs J N G U p 0) = 0 := rfl
  have a1 : am_z (am_TC L xs J N G U p 1) = 0 := rfl
  have a2 : am_z (am_TC L xs J N G U p 2) = 0 := rfl
  have a3 : am_z (am_TC L xs J N G U p 3) = 0 := rfl
  have a4 : am_z (am_TC L xs J N G U p 4) = 0 := rfl
  have a5 : am_z (am_TC L xs J N G U p 5) = L := rfl
  have a6 : am_z (am_TC L xs J N G U p 6) = 7 := rfl
  have a7 : am_z (am_TC L xs J N G U p 7) = 6 := rfl
  have a8 : am_z (am_TC L xs J N G U p 8) = 96 := rfl
  have a9 : am_z (am_TC L xs J N G U p 9) = 48 := rfl
  have a10 : am_z (am_TC L xs J N G U p 10) = 48 := rfl
  have a11 : am_z (am_TC L xs J N G U p 11) = 48 := rfl
  have a12 : am_z (am_TC L xs J N G U p 12) = 3 := rfl
  have a13 : am_z (am_TC L xs J N G U p 13) = 6 := rfl
  have a14 : am_z (am_TC L xs J N G U p 14) = 8 := rfl
  have a15 : am_z (am_TC L xs J N G U p 15) = 8 := rfl
  have a16 : am_z (am_TC L xs J N G U p 16) = 32 := rfl
  have a17 : am_z (am_TC L xs J N G U p 17) = 6 := rfl
  have a18 : am_z (am_TC L xs J N G U p 18) = 8 := rfl
  have a19 : am_z (am_TC L xs J N G U p 19) = 8 := rfl
  have a20 : am_z (am_TC L xs J N G U p 20) = 32 := rfl
  have a21 : am_z (am_TC L xs J N G U p 21) = 6 := rfl
  have a22 : am_z (am_TC L xs J N G U p 22) = 8 := rfl
  have a23 : am_z (am_TC L xs J N G U p 23) = 8 := rfl
  have a24 : am_z (am_TC L xs J N G U p 24) = 32 := rfl
  have a25 : am_z (am_TC L xs J N G U p 25) = 10 := rfl
  have a26 : am_z (am_TC L xs J N G U p 26) = 40 := rfl
  have a27 : am_z (am_TC L xs J N G U p 27) = 40 := rfl
  have a28 : am_z (am_TC L xs J N G U p 28) = 40 := rfl
  have a29 : am_z (am_TC L xs J N G U p 29) = 41 := rfl
  have a30 : am_z (am_TC L xs J N G U p 30) = 400 := rfl
  have a31 : am_z (am_TC L xs J N G U p 31) = 400 := rfl
  have a32 : am_z (am_TC L xs J N G U p 32) = 400 := rfl
  have a33 : am_z (am_TC L xs J N G U p 33) = 400 := rfl
  have a34 : am_z (am_TC L xs J N G U p 34) = 9 := rfl
  have a35 : am_z (am_TC L xs J N G U p 35) = 3 := rfl
  have a36 : am_z (am_TC L xs J N G U p 36) = 48 := rfl
  have a37 : am_z (am_TC L xs J N G U p 37) = 48 := rfl
  have a38 : am_z (am_TC L xs J N G U p 38) = 48 := rfl
  have a39 : am_z (am_TC L xs J N G U p 39) = 3 := rfl
  have a40 : am_z (am_TC L xs J N G U p 40) = 40 := rfl
  have a41 : am_z (am_TC L xs J N G U p 41) = 40 := rfl
  have a42 : am_z (am_TC L xs J N G U p 42) = 7 := rfl
  have a43 : am_z (am_TC L xs J N G U p 43) = 400 := rfl
  have a44 : am_z (am_TC L xs J N G U p 44) = 400 := rfl
  have a45 : am_z (am_TC L xs J N G U p 45) = 12 := rfl
  have a46 : am_z (am_TC L xs J N G U p 46) = 12 := rfl
  have a47 : am_z (am_TC L xs J N G U p 47) = 13 := rfl
  have b0 : am_z (am_M I B S 0) = 33 := rfl
  have b1 : am_z (am_M I B S 1) = 72408 := rfl
  have b2 : am_z (am_M I B S 2) = 6034 := rfl
  have b3 : am_z (am_M I B S 3) = 96 := rfl
  have b4 : am_z (am_M I B S 4) = 40 := rfl
  have b5 : am_z (am_M I B S 5) = 40 := rfl
  have b6 : am_z (am_M I B S 6) = 40 := rfl
  have b7 : am_z (am_M I B S 7) = 1920 := rfl
  have b8 : am_z (am_M I B S 8) = 1920 := rfl
  have b9 : am_z (am_M I B S 9) = 2000 := rfl
  have b10 : am_z (am_M I B S 10) = 3 := rfl
  have b11 : am_z (am_M I B S 11) = 48 := rfl
  have b12 : am_z (am_M I B S 12) = 48 := rfl
  have b13 : am_z (am_M I B S 13) = 96 := rfl
  have b14 : am_z (am_M I B S 14) = 96 := rfl
  have b15 : am_z (am_M I B S 15) = 96 := rfl
  have b16 : am_z (am_M I B S 16) = 96 := rfl
  have b17 : am_z (am_M I B S 17) = 40 := rfl
  have b18 : am_z (am_M I B S 18) = 40 := rfl
  have b19 : am_z (am_M I B S 19) = 1920 := rfl
  have b20 : am_z (am_M I B S 20) = 12 := rfl
  have b21 : am_z (am_M I B S 21) = 169 := rfl
  rw [sz_hp0, h0, a0, a1, a2, a3, a4, a5, a6, a7, a8, a9, a10, a11, a12, a13, a14, a15, a16, a17, a18, a19, a20, a21, a22, a23, a24, a25, a26, a27, a28, a29, a30, a31, a32, a33, a34, a35, a36, a37, a38, a39, a40, a41, a42, a43, a44, a45, a46, a47, b0, b1, b2, b3, b4, b5, b6, b7, b8, b9, b10, b11, b12, b13, b14, b15, b16, b17, b18, b19, b20, b21]
  exact sz_ar L (am_sz D)
theorem ln_hp {T M : Nat → am_C} {D : List am_C} : (am_hp T M D).length = D.length + 70 := by
  simp only [am_hp, List.length_cons]
/-- nothing is there at first -/
def Z00 : tx_Z := ((fun _ => 0, 0), (fun _ => [], fun _ => []), (0, fun _ => none, fun _ => 0, fun _ => 0, fun _ _ => [], fun _ _ => 0, fun _ _ => 0), (0, fun _ => 0, fun _ => 0), (0, fun _ => []), [])
theorem m_00 : tx_m Z00 (fun _ => 0) (fun _ _ => 0) (fun _ => 0) (fun _ => []) := by
  refine ⟨fun a ha => ⟨Nat.zero_le _, rfl, fun k hk => absurd hk (Nat.not_lt_zero k), fun x hx => by cases hx⟩, ⟨rfl, Nat.zero_le _, fun j hj => absurd hj (Nat.not_lt_zero j)⟩, ⟨rfl, Nat.zero_le _, fun l hl => ⟨rfl, Nat.zero_le _, rfl, fun u => ⟨?_, fun q => by cases q⟩⟩⟩, ⟨⟨rfl, Nat.zero_le _, fun t ht => absurd ht (Nat.not_lt_zero t)⟩, fun t ht => absurd ht (Nat.not_lt_zero t), rfl⟩, ⟨rfl, Nat.zero_le _, fun i hi => absurd hi (Nat.not_lt_zero i)⟩, ⟨rfl, Nat.zero_le _, fun i hi => absurd hi (Nat.not_lt_zero i)⟩, ⟨rfl, Nat.zero_le _, fun k hk => absurd hk (Nat.not_lt_zero k)⟩⟩
  rintro ⟨k, hk, -⟩
  exact absurd hk (Nat.not_lt_zero k)
theorem c_00 : tx_c Z00 (fun _ => 0) (fun _ _ => 0) (fun _ _ => 0) 0 p00 [] (fun _ => 32) := by
  refine ⟨⟨rfl, Nat.zero_le _, fun j hj => absurd hj (Nat.not_lt_zero j)⟩, ⟨fun l hl => ⟨rfl, rfl, fun _ => 0, Or.inl ⟨?_, rfl, rfl⟩, Nat.zero_le _, Nat.zero_le _, show 32 ≤ 2048 by decide, fun k hk => absurd hk (Nat.not_lt_zero k), fun k hk => absurd hk (Nat.not_lt_zero k), fun u hu => (by cases hu), fun q hq => (by cases hq)⟩, ?_, fun l hl => ⟨0, by decide, rfl⟩⟩, ⟨rfl, rfl, Nat.zero_le _, Nat.zero_le _, rfl, fun t ht => rfl, fun t ht => absurd ht (Nat.not_lt_zero t)⟩, fun t ht => absurd ht (Nat.not_lt_zero t), ⟨rfl, Nat.zero_le _, fun i hi => absurd hi (Nat.not_lt_zero i)⟩, ⟨rfl, Nat.zero_le _, fun i hi => absurd hi (Nat.not_lt_zero i)⟩, ⟨?_, Nat.zero_le _, fun x hx => (by cases hx)⟩, ⟨0, fun _ => 0, rfl, Nat.zero_le _, Or.inl ⟨rfl, rfl⟩⟩⟩
  · rcases (by omega : l = 0 ∨ l = 1 ∨ l = 2) with rfl | rfl | rfl <;> rfl
  · intro l l' hl hl' hne
    rcases (by omega : l = 0 ∨ l = 1 ∨ l = 2) with rfl | rfl | rfl <;> rcases (by omega : l' = 0 ∨ l' = 1 ∨ l' = 2) with rfl | rfl | rfl <;> first | exact absurd rfl hne | decide
  · exact ((encZ ⟨Nat.zero_le _, fun x hx => (by cases hx)⟩).mpr rfl).symm
theorem i_00 (L : Nat) (xs : Nat → Int32) : lawI L xs 0 (hS0 L xs) := ⟨Z00, _, _, _, _, _, _, _, _, _, _, _, rfl, c_00, m_00, ⟨0, Nat.le_refl _, Nat.le_refl _, Nat.le_refl _⟩, ⟨Nat.le_refl _, Nat.le_refl _⟩⟩
theorem cpk_le {c : Nat} (h : cpk c) : c ≤ 2048 := by
  obtain ⟨k, hk, rfl⟩ := h
  have : 2 ^ k ≤ 2 ^ 6 := Nat.pow_le_pow_right (by decide) hk
  omega
theorem law_run (L : Nat) (xs : Nat → Int32) (hL : L ≤ 2048) : ∃ (n : Nat) (r : Option Value) (h' : List am_C), am_run n m_Law_law 0 [some (.ref 5), none, none, none] [] (am_h0 L xs) = some (r, h') ∧ r = some (.int 1) ∧ h'.length ≤ 600006 ∧ am_sz h' ≤ am_sz (am_h0 L xs) + 7302250 := by
  obtain ⟨n, r, h', h1, h2, k, hk, Z, J, N, G, U, p, D, cp, I, B, S, μ, h3, hc, -, -, s1, s2⟩ := law_new (L := L) (xs := xs) (Q := lawQ L xs) (tx_loop hL 512 0 _ (by omega) (by omega) (i_00 L xs))
  have c0 := cpk_le (hc.2.1.2.2 0 (by decide))
  have c1 := cpk_le (hc.2.1.2.2 1 (by decide))
  have c2 := cpk_le (hc.2.1.2.2 2 (by decide))
  refine ⟨n, r, h', h1, h2, ?_, ?_⟩
  · rw [h3, ln_hp]
    omega
  · rw [h3, sz_hp]
    omega
