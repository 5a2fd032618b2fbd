/-- the reference's cells: I its numbers (0 size, 1 texts, 2 gone, 3 stops, 4 taped, 5 parts, 6 asked, 7 at, 8 fault, 9 answered, 10 liked, 11 shownSize), B its rows of ints (0 bytes, 1 lengths, 2 tape, 3 languages, 4 fields, 5 counts, 6 froms, 7 fulls, 8 stopLanguages, 9 rules, 10 tapedFroms, 11 tapedFulls, 12 partRows, 13 partSorts, 14 partFirsts, 15 partCounts, 16 answers, 17 changes, 18 shown, 19 table), S the scores -/
def am_M (I : Nat → Int32) (B : Nat → Nat → Int32) (S : Nat → Int64) (k : Nat) : am_C := match k with
  | 0 => .inr (8, [.ref 49, .ref 50, .ref 51, .int (I 0), .ref 52, .ref 53, .ref 54, .ref 55, .ref 56, .int (I 1), .int (I 2), .ref 57, .int (I 3), .ref 58, .int (I 4), .ref 59, .ref 60, .ref 61, .ref 62, .ref 63, .ref 64, .int (I 5), .int (I 6), .int (I 7), .int (I 8), .ref 65, .ref 66, .int (I 9), .ref 67, .int (I 10), .ref 68, .int (I 11), .ref 69])
  | 1 => .inl (1, (72408, .inl (B 0)))
  | 2 => .inl (0, (6034, .inl (B 1)))
  | 3 => .inl (1, (96, .inl (B 2)))
  | 4 => .inl (0, (40, .inl (B 3)))
  | 5 => .inl (0, (40, .inl (B 4)))
  | 6 => .inl (0, (40, .inl (B 5)))
  | 7 => .inl (0, (1920, .inl (B 6)))
  | 8 => .inl (0, (1920, .inl (B 7)))
  | 9 => .inl (0, (2000, .inl (B 8)))
  | 10 => .inl (0, (3, .inl (B 9)))
  | 11 => .inl (0, (48, .inl (B 10)))
  | 12 => .inl (0, (48, .inl (B 11)))
  | 13 => .inl (0, (96, .inl (B 12)))
  | 14 => .inl (0, (96, .inl (B 13)))
  | 15 => .inl (0, (96, .inl (B 14)))
  | 16 => .inl (0, (96, .inl (B 15)))
  | 17 => .inl (0, (40, .inl (B 16)))
  | 18 => .inl (3, (40, .inr (.inl S)))
  | 19 => .inl (0, (1920, .inl (B 17)))
  | 20 => .inl (1, (12, .inl (B 18)))
  | _ => .inl (0, (169, .inl (B 19)))
def am_hp (T M : Nat → am_C) (D : List am_C) : List am_C := T 0 :: T 1 :: T 2 :: T 3 :: T 4 :: T 5 :: T 6 :: T 7 :: T 8 :: T 9 :: T 10 :: T 11 :: T 12 :: T 13 :: T 14 :: T 15 :: T 16 :: T 17 :: T 18 :: T 19 :: T 20 :: T 21 :: T 22 :: T 23 :: T 24 :: T 25 :: T 26 :: T 27 :: T 28 :: T 29 :: T 30 :: T 31 :: T 32 :: T 33 :: T 34 :: T 35 :: T 36 :: T 37 :: T 38 :: T 39 :: T 40 :: T 41 :: T 42 :: T 43 :: T 44 :: T 45 :: T 46 :: T 47 :: M 0 :: M 1 :: M 2 :: M 3 :: M 4 :: M 5 :: M 6 :: M 7 :: M 8 :: M 9 :: M 10 :: M 11 :: M 12 :: M 13 :: M 14 :: M 15 :: M 16 :: M 17 :: M 18 :: M 19 :: M 20 :: M 21 :: D
theorem c_byteOf (T : Nat → am_C) (D : List am_C) (I : Nat → Int32) (B : Nat → Nat → Int32) (S : Nat → Int64) (w k : Nat) (hw : 12 * w + k < 72408) : Do m_Mo_byteOf [.ref 48, .int (nI w), .int (nI k)] (am_hp T (am_M I B S) D) (fun r h' => r = some (.int (B 0 (12 * w + k))) ∧ h' = am_hp T (am_M I B S) D) := by
  have e : (12 : Int32) * nI w + nI k = nI (12 * w + k) := by
    rw [show (12 : Int32) = nI 12 from rfl, pk_mul, nI_add]
  refine go_s rfl rfl rfl trivial ?_
  refine go_s rfl rfl rfl trivial ?_
  refine go_s rfl rfl rfl trivial ?_
  refine go_s rfl rfl rfl trivial ?_
  refine go_s rfl rfl rfl trivial ?_
  refine go_s rfl rfl rfl trivial ?_
  refine go_s rfl rfl rfl trivial ?_
  refine go_s rfl rfl rfl ?_ ?_
  · rw [e]; exact vp_in_nI hw (by omega)
  refine go_r rfl rfl rfl trivial ⟨?_, rfl⟩
  rw [e, nI_clamp (by omega)]
