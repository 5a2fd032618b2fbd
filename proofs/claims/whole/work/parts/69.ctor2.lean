/-! ===== the constructors, 2 ===== -/
theorem lg_up : va_up (va_up (va_up (fun _ => none) 0 (some 13)) 1 (some 17)) 2 (some 21) = am_lg := by
  funext i
  match i with
  | 0 => rfl
  | 1 => rfl
  | 2 => rfl
  | i + 3 => rfl
theorem i_TI {t0 t1 t2 t3 t4 t5 : am_C} : Do m_TI_init [.ref 6] [t0, t1, t2, t3, t4, t5, .inr (0, [.null, .null, .null, .null, .null, .null, .long 0])] (fun r h' => r = none ∧ h' = [t0, t1, t2, t3, t4, t5, .inr (0, [.ref 7, .ref 12, .ref 25, .ref 34, .ref 39, .ref 42, .long 0]), .inr (1, [.ref 8, .int 0, .ref 9, .ref 10, .ref 11, .int 0]), .inl (0, (96, .inl fun _ => 0)), .inl (3, (48, .inr (.inl fun _ => 0))), .inl (0, (48, .inl fun _ => 0)), .inl (0, (48, .inl fun _ => 0)), .inl (5, (3, .inr (.inr (.inr (.inr am_lg))))), .inr (2, [.int 0, .ref 14, .ref 15, .int 0, .ref 16, .int 0]), .inl (3, (8, .inr (.inl fun _ => 0))), .inl (3, (8, .inr (.inl fun _ => 0))), .inl (3, (32, .inr (.inl fun _ => 0))), .inr (2, [.int 1, .ref 18, .ref 19, .int 0, .ref 20, .int 0]), .inl (3, (8, .inr (.inl fun _ => 0))), .inl (3, (8, .inr (.inl fun _ => 0))), .inl (3, (32, .inr (.inl fun _ => 0))), .inr (2, [.int 2, .ref 22, .ref 23, .int 0, .ref 24, .int 0]), .inl (3, (8, .inr (.inl fun _ => 0))), .inl (3, (8, .inr (.inl fun _ => 0))), .inl (3, (32, .inr (.inl fun _ => 0))), .inr (3, [.ref 26, .ref 27, .ref 28, .ref 29, .int 0, .ref 30, .ref 31, .ref 32, .ref 33, .int 0]), .inl (0, (40, .inl fun _ => 0)), .inl (0, (40, .inl fun _ => 0)), .inl (2, (40, .inl fun _ => 0)), .inl (0, (41, .inl fun _ => 0)), .inl (3, (400, .inr (.inl fun _ => 0))), .inl (3, (400, .inr (.inl fun _ => 0))), .inl (0, (400, .inl fun _ => 0)), .inl (0, (400, .inl fun _ => 0)), .inr (4, [.ref 7, .ref 35, .ref 36, .int 0, .ref 37, .ref 38, .int 0, .int 0, .int 0]), .inr (5, [.int 0, .ref 0, .int 0]), .inl (3, (48, .inr (.inl fun _ => 0))), .inl (3, (48, .inr (.inl fun _ => 0))), .inl (3, (48, .inr (.inl fun _ => 0))), .inr (6, [.ref 40, .ref 41, .int 0]), .inl (0, (40, .inl fun _ => 0)), .inl (3, (40, .inr (.inl fun _ => 0))), .inr (7, [.ref 43, .ref 44, .int 0, .ref 45, .int 0, .ref 46, .ref 47]), .inl (3, (400, .inr (.inl fun _ => 0))), .inl (0, (400, .inl fun _ => 0)), .inl (0, (12, .inl fun _ => 0)), .inl (0, (12, .inl fun _ => 0)), .inl (0, (13, .inl fun _ => 0))]) := by
  refine go_s rfl rfl rfl (by first | trivial | decide) ?_
  refine go_s rfl rfl rfl (by first | trivial | decide) ?_
  refine go_s rfl rfl rfl (by first | trivial | decide) ?_
  refine go_s rfl rfl rfl (by first | trivial | decide) ?_
  refine go_s rfl rfl rfl (by first | trivial | decide) ?_
  refine go_c rfl rfl rfl i_Ta ?_
  rintro r h0 ⟨rfl, rfl⟩
  refine go_s rfl rfl rfl (by first | trivial | decide) ?_
  change Go m_TI_init 15 [some (.ref 6), none] [] [t0, t1, t2, t3, t4, t5, .inr (0, [.ref 7, .null, .null, .null, .null, .null, .long 0]), .inr (1, [.ref 8, .int 0, .ref 9, .ref 10, .ref 11, .int 0]), .inl (0, (96, .inl fun _ => 0)), .inl (3, (48, .inr (.inl fun _ => 0))), .inl (0, (48, .inl fun _ => 0)), .inl (0, (48, .inl fun _ => 0))] _
  refine go_s rfl rfl rfl (by first | trivial | decide) ?_
  refine go_s rfl rfl rfl (by first | trivial | decide) ?_
  refine go_s rfl rfl rfl (by first | trivial | decide) ?_
  refine go_s rfl rfl rfl (by first | trivial | decide) ?_
  change Go m_TI_init 23 [some (.ref 6), none] [] [t0, t1, t2, t3, t4, t5, .inr (0, [.ref 7, .ref 12, .null, .null, .null, .null, .long 0]), .inr (1, [.ref 8, .int 0, .ref 9, .ref 10, .ref 11, .int 0]), .inl (0, (96, .inl fun _ => 0)), .inl (3, (48, .inr (.inl fun _ => 0))), .inl (0, (48, .inl fun _ => 0)), .inl (0, (48, .inl fun _ => 0)), .inl (5, (3, .inr (.inr (.inr (.inr fun _ => none)))))] _
  refine go_s rfl rfl rfl (by first | trivial | decide) ?_
  refine go_s rfl rfl rfl (by first | trivial | decide) ?_
  change Go m_TI_init 25 [some (.ref 6), some (.int 0)] [] [t0, t1, t2, t3, t4, t5, .inr (0, [.ref 7, .ref 12, .null, .null, .null, .null, .long 0]), .inr (1, [.ref 8, .int 0, .ref 9, .ref 10, .ref 11, .int 0]), .inl (0, (96, .inl fun _ => 0)), .inl (3, (48, .inr (.inl fun _ => 0))), .inl (0, (48, .inl fun _ => 0)), .inl (0, (48, .inl fun _ => 0)), .inl (5, (3, .inr (.inr (.inr (.inr fun _ => none)))))] _
  refine go_s rfl rfl rfl (by first | trivial | decide) ?_
  refine go_s rfl rfl rfl (by first | trivial | decide) ?_
  refine go_s rfl rfl rfl (by first | trivial | decide) ?_
  refine go_s rfl rfl rfl (by first | trivial | decide) ?_
  refine go_s rfl rfl rfl (by first | trivial | decide) ?_
  refine go_if (fun hc => absurd hc (by decide)) (fun _ => ?_)
  refine go_s rfl rfl rfl (by first | trivial | decide) ?_
  refine go_s rfl rfl rfl (by first | trivial | decide) ?_
  refine go_s rfl rfl rfl (by first | trivial | decide) ?_
  refine go_s rfl rfl rfl (by first | trivial | decide) ?_
  refine go_s rfl rfl rfl (by first | trivial | decide) ?_
  refine go_s rfl rfl rfl (by first | trivial | decide) ?_
  refine go_c rfl rfl rfl (i_La0 0) ?_
  rintro r h0 ⟨rfl, rfl⟩
  refine go_s rfl rfl rfl (by unfold vp_in; decide) ?_
  refine go_s rfl rfl rfl (by first | trivial | decide) ?_
  refine go_s rfl rfl rfl (by first | trivial | decide) ?_
  change Go m_TI_init 25 [some (.ref 6), some (.int 1)] [] [t0, t1, t2, t3, t4, t5, .inr (0, [.ref 7, .ref 12, .null, .null, .null, .null, .long 0]), .inr (1, [.ref 8, .int 0, .ref 9, .ref 10, .ref 11, .int 0]), .inl (0, (96, .inl fun _ => 0)), .inl (3, (48, .inr (.inl fun _ => 0))), .inl (0, (48, .inl fun _ => 0)), .inl (0, (48, .inl fun _ => 0)), .inl (5, (3, .inr (.inr (.inr (.inr (va_up (fun _ => none) 0 (some 13))))))), .inr (2, [.int 0, .ref 14, .ref 15, .int 0, .ref 16, .int 0]), .inl (3, (8, .inr (.inl fun _ => 0))), .inl (3, (8, .inr (.inl fun _ => 0))), .inl (3, (32, .inr (.inl fun _ => 0)))] _
  refine go_s rfl rfl rfl (by first | trivial | decide) ?_
  refine go_s rfl rfl rfl (by first | trivial | decide) ?_
  refine go_s rfl rfl rfl (by first | trivial | decide) ?_
  refine go_s rfl rfl rfl (by first | trivial | decide) ?_
  refine go_s rfl rfl rfl (by first | trivial | decide) ?_
  refine go_if (fun hc => absurd hc (by decide)) (fun _ => ?_)
  refine go_s rfl rfl rfl (by first | trivial | decide) ?_
  refine go_s rfl rfl rfl (by first | trivial | decide) ?_
  refine go_s rfl rfl rfl (by first | trivial | decide) ?_
  refine go_s rfl rfl rfl (by first | trivial | decide) ?_
  refine go_s rfl rfl rfl (by first | trivial | decide) ?_
  refine go_s rfl rfl rfl (by first | trivial | decide) ?_
  refine go_c rfl rfl rfl (i_La1 1) ?_
  rintro r h0 ⟨rfl, rfl⟩
  refine go_s rfl rfl rfl (by unfold vp_in; decide) ?_
  refine go_s rfl rfl rfl (by first | trivial | decide) ?_
  refine go_s rfl rfl rfl (by first | trivial | decide) ?_
  change Go m_TI_init 25 [some (.ref 6), some (.int 2)] [] [t0, t1, t2, t3, t4, t5, .inr (0, [.ref 7, .ref 12, .null, .null, .null, .null, .long 0]), .inr (1, [.ref 8, .int 0, .ref 9, .ref 10, .ref 11, .int 0]), .inl (0, (96, .inl fun _ => 0)), .inl (3, (48, .inr (.inl fun _ => 0))), .inl (0, (48, .inl fun _ => 0)), .inl (0, (48, .inl fun _ => 0)), .inl (5, (3, .inr (.inr (.inr (.inr (va_up (va_up (fun _ => none) 0 (some 13)) 1 (some 17))))))), .inr (2, [.int 0, .ref 14, .ref 15, .int 0, .ref 16, .int 0]), .inl (3, (8, .inr (.inl fun _ => 0))), .inl (3, (8, .inr (.inl fun _ => 0))), .inl (3, (32, .inr (.inl fun _ => 0))), .inr (2, [.int 1, .ref 18, .ref 19, .int 0, .ref 20, .int 0]), .inl (3, (8, .inr (.inl fun _ => 0))), .inl (3, (8, .inr (.inl fun _ => 0))), .inl (3, (32, .inr (.inl fun _ => 0)))] _
  refine go_s rfl rfl rfl (by first | trivial | decide) ?_
  refine go_s rfl rfl rfl (by first | trivial | decide) ?_
  refine go_s rfl rfl rfl (by first | trivial | decide) ?_
  refine go_s rfl rfl rfl (by first | trivial | decide) ?_
  refine go_s rfl rfl rfl (by first | trivial | decide) ?_
  refine go_if (fun hc => absurd hc (by decide)) (fun _ => ?_)
  refine go_s rfl rfl rfl (by first | trivial | decide) ?_
  refine go_s rfl rfl rfl (by first | trivial | decide) ?_
  refine go_s rfl rfl rfl (by first | trivial | decide) ?_
  refine go_s rfl rfl rfl (by first | trivial | decide) ?_
  refine go_s rfl rfl rfl (by first | trivial | decide) ?_
  refine go_s rfl rfl rfl (by first | trivial | decide) ?_
  refine go_c rfl rfl rfl (i_La2 2) ?_
  rintro r h0 ⟨rfl, rfl⟩
  refine go_s rfl rfl rfl (by unfold vp_in; decide) ?_
  refine go_s rfl rfl rfl (by first | trivial | decide) ?_
  refine go_s rfl rfl rfl (by first | trivial | decide) ?_
  change Go m_TI_init 25 [some (.ref 6), some (.int 3)] [] [t0, t1, t2, t3, t4, t5, .inr (0, [.ref 7, .ref 12, .null, .null, .null, .null, .long 0]), .inr (1, [.ref 8, .int 0, .ref 9, .ref 10, .ref 11, .int 0]), .inl (0, (96, .inl fun _ => 0)), .inl (3, (48, .inr (.inl fun _ => 0))), .inl (0, (48, .inl fun _ => 0)), .inl (0, (48, .inl fun _ => 0)), .inl (5, (3, .inr (.inr (.inr (.inr (va_up (va_up (va_up (fun _ => none) 0 (some 13)) 1 (some 17)) 2 (some 21))))))), .inr (2, [.int 0, .ref 14, .ref 15, .int 0, .ref 16, .int 0]), .inl (3, (8, .inr (.inl fun _ => 0))), .inl (3, (8, .inr (.inl fun _ => 0))), .inl (3, (32, .inr (.inl fun _ => 0))), .inr (2, [.int 1, .ref 18, .ref 19, .int 0, .ref 20, .int 0]), .inl (3, (8, .inr (.inl fun _ => 0))), .inl (3, (8, .inr (.inl fun _ => 0))), .inl (3, (32, .inr (.inl fun _ => 0))), .inr (2, [.int 2, .ref 22, .ref 23, .int 0, .ref 24, .int 0]), .inl (3, (8, .inr (.inl fun _ => 0))), .inl (3, (8, .inr (.inl fun _ => 0))), .inl (3, (32, .inr (.inl fun _ => 0)))] _
  rw [lg_up]
  refine go_s rfl rfl rfl (by first | trivial | decide) ?_
  refine go_s rfl rfl rfl (by first | trivial | decide) ?_
  refine go_s rfl rfl rfl (by first | trivial | decide) ?_
  refine go_s rfl rfl rfl (by first | trivial | decide) ?_
  refine go_s rfl rfl rfl (by first | trivial | decide) ?_
  refine go_if (fun _ => ?_) (fun hc => absurd (by decide) hc)
  refine go_s rfl rfl rfl (by first | trivial | decide) ?_
  refine go_s rfl rfl rfl (by first | trivial | decide) ?_
  refine go_s rfl rfl rfl (by first | trivial | decide) ?_
  refine go_c rfl rfl rfl i_Sh ?_
  rintro r h0 ⟨rfl, rfl⟩
  refine go_s rfl rfl rfl (by first | trivial | decide) ?_
  change Go m_TI_init 65 [some (.ref 6), some (.int 3)] [] [t0, t1, t2, t3, t4, t5, .inr (0, [.ref 7, .ref 12, .ref 25, .null, .null, .null, .long 0]), .inr (1, [.ref 8, .int 0, .ref 9, .ref 10, .ref 11, .int 0]), .inl (0, (96, .inl fun _ => 0)), .inl (3, (48, .inr (.inl fun _ => 0))), .inl (0, (48, .inl fun _ => 0)), .inl (0, (48, .inl fun _ => 0)), .inl (5, (3, .inr (.inr (.inr (.inr am_lg))))), .inr (2, [.int 0, .ref 14, .ref 15, .int 0, .ref 16, .int 0]), .inl (3, (8, .inr (.inl fun _ => 0))), .inl (3, (8, .inr (.inl fun _ => 0))), .inl (3, (32, .inr (.inl fun _ => 0))), .inr (2, [.int 1, .ref 18, .ref 19, .int 0, .ref 20, .int 0]), .inl (3, (8, .inr (.inl fun _ => 0))), .inl (3, (8, .inr (.inl fun _ => 0))), .inl (3, (32, .inr (.inl fun _ => 0))), .inr (2, [.int 2, .ref 22, .ref 23, .int 0, .ref 24, .int 0]), .inl (3, (8, .inr (.inl fun _ => 0))), .inl (3, (8, .inr (.inl fun _ => 0))), .inl (3, (32, .inr (.inl fun _ => 0))), .inr (3, [.ref 26, .ref 27, .ref 28, .ref 29, .int 0, .ref 30, .ref 31, .ref 32, .ref 33, .int 0]), .inl (0, (40, .inl fun _ => 0)), .inl (0, (40, .inl fun _ => 0)), .inl (2, (40, .inl fun _ => 0)), .inl (0, (41, .inl fun _ => 0)), .inl (3, (400, .inr (.inl fun _ => 0))), .inl (3, (400, .inr (.inl fun _ => 0))), .inl (0, (400, .inl fun _ => 0)), .inl (0, (400, .inl fun _ => 0))] _
  refine go_s rfl rfl rfl (by first | trivial | decide) ?_
  refine go_s rfl rfl rfl (by first | trivial | decide) ?_
  refine go_s rfl rfl rfl (by first | trivial | decide) ?_
  refine go_s rfl rfl rfl (by first | trivial | decide) ?_
  refine go_s rfl rfl rfl (by first | trivial | decide) ?_
  refine go_c rfl rfl rfl i_Qu ?_
  rintro r h0 ⟨rfl, rfl⟩
  refine go_s rfl rfl rfl (by first | trivial | decide) ?_
  change Go m_TI_init 80 [some (.ref 6), some (.int 3)] [] [t0, t1, t2, t3, t4, t5, .inr (0, [.ref 7, .ref 12, .ref 25, .ref 34, .null, .null, .long 0]), .inr (1, [.ref 8, .int 0, .ref 9, .ref 10, .ref 11, .int 0]), .inl (0, (96, .inl fun _ => 0)), .inl (3, (48, .inr (.inl fun _ => 0))), .inl (0, (48, .inl fun _ => 0)), .inl (0, (48, .inl fun _ => 0)), .inl (5, (3, .inr (.inr (.inr (.inr am_lg))))), .inr (2, [.int 0, .ref 14, .ref 15, .int 0, .ref 16, .int 0]), .inl (3, (8, .inr (.inl fun _ => 0))), .inl (3, (8, .inr (.inl fun _ => 0))), .inl (3, (32, .inr (.inl fun _ => 0))), .inr (2, [.int 1, .ref 18, .ref 19, .int 0, .ref 20, .int 0]), .inl (3, (8, .inr (.inl fun _ => 0))), .inl (3, (8, .inr (.inl fun _ => 0))), .inl (3, (32, .inr (.inl fun _ => 0))), .inr (2, [.int 2, .ref 22, .ref 23, .int 0, .ref 24, .int 0]), .inl (3, (8, .inr (.inl fun _ => 0))), .inl (3, (8, .inr (.inl fun _ => 0))), .inl (3, (32, .inr (.inl fun _ => 0))), .inr (3, [.ref 26, .ref 27, .ref 28, .ref 29, .int 0, .ref 30, .ref 31, .ref 32, .ref 33, .int 0]), .inl (0, (40, .inl fun _ => 0)), .inl (0, (40, .inl fun _ => 0)), .inl (2, (40, .inl fun _ => 0)), .inl (0, (41, .inl fun _ => 0)), .inl (3, (400, .inr (.inl fun _ => 0))), .inl (3, (400, .inr (.inl fun _ => 0))), .inl (0, (400, .inl fun _ => 0)), .inl (0, (400, .inl fun _ => 0)), .inr (4, [.ref 7, .ref 35, .ref 36, .int 0, .ref 37, .ref 38, .int 0, .int 0, .int 0]), .inr (5, [.int 0, .ref 0, .int 0]), .inl (3, (48, .inr (.inl fun _ => 0))), .inl (3, (48, .inr (.inl fun _ => 0))), .inl (3, (48, .inr (.inl fun _ => 0)))] _
  refine go_s rfl rfl rfl (by first | trivial | decide) ?_
  refine go_s rfl rfl rfl (by first | trivial | decide) ?_
  refine go_s rfl rfl rfl (by first | trivial | decide) ?_
  refine go_c rfl rfl rfl i_An ?_
  rintro r h0 ⟨rfl, rfl⟩
  refine go_s rfl rfl rfl (by first | trivial | decide) ?_
  change Go m_TI_init 91 [some (.ref 6), some (.int 3)] [] [t0, t1, t2, t3, t4, t5, .inr (0, [.ref 7, .ref 12, .ref 25, .ref 34, .ref 39, .null, .long 0]), .inr (1, [.ref 8, .int 0, .ref 9, .ref 10, .ref 11, .int 0]), .inl (0, (96, .inl fun _ => 0)), .inl (3, (48, .inr (.inl fun _ => 0))), .inl (0, (48, .inl fun _ => 0)), .inl (0, (48, .inl fun _ => 0)), .inl (5, (3, .inr (.inr (.inr (.inr am_lg))))), .inr (2, [.int 0, .ref 14, .ref 15, .int 0, .ref 16, .int 0]), .inl (3, (8, .inr (.inl fun _ => 0))), .inl (3, (8, .inr (.inl fun _ => 0))), .inl (3, (32, .inr (.inl fun _ => 0))), .inr (2, [.int 1, .ref 18, .ref 19, .int 0, .ref 20, .int 0]), .inl (3, (8, .inr (.inl fun _ => 0))), .inl (3, (8, .inr (.inl fun _ => 0))), .inl (3, (32, .inr (.inl fun _ => 0))), .inr (2, [.int 2, .ref 22, .ref 23, .int 0, .ref 24, .int 0]), .inl (3, (8, .inr (.inl fun _ => 0))), .inl (3, (8, .inr (.inl fun _ => 0))), .inl (3, (32, .inr (.inl fun _ => 0))), .inr (3, [.ref 26, .ref 27, .ref 28, .ref 29, .int 0, .ref 30, .ref 31, .ref 32, .ref 33, .int 0]), .inl (0, (40, .inl fun _ => 0)), .inl (0, (40, .inl fun _ => 0)), .inl (2, (40, .inl fun _ => 0)), .inl (0, (41, .inl fun _ => 0)), .inl (3, (400, .inr (.inl fun _ => 0))), .inl (3, (400, .inr (.inl fun _ => 0))), .inl (0, (400, .inl fun _ => 0)), .inl (0, (400, .inl fun _ => 0)), .inr (4, [.ref 7, .ref 35, .ref 36, .int 0, .ref 37, .ref 38, .int 0, .int 0, .int 0]), .inr (5, [.int 0, .ref 0, .int 0]), .inl (3, (48, .inr (.inl fun _ => 0))), .inl (3, (48, .inr (.inl fun _ => 0))), .inl (3, (48, .inr (.inl fun _ => 0))), .inr (6, [.ref 40, .ref 41, .int 0]), .inl (0, (40, .inl fun _ => 0)), .inl (3, (40, .inr (.inl fun _ => 0)))] _
  refine go_s rfl rfl rfl (by first | trivial | decide) ?_
  refine go_s rfl rfl rfl (by first | trivial | decide) ?_
  refine go_s rfl rfl rfl (by first | trivial | decide) ?_
  refine go_c rfl rfl rfl i_Li ?_
  rintro r h0 ⟨rfl, rfl⟩
  refine go_s rfl rfl rfl (by first | trivial | decide) ?_
  change Go m_TI_init 102 [some (.ref 6), some (.int 3)] [] [t0, t1, t2, t3, t4, t5, .inr (0, [.ref 7, .ref 12, .ref 25, .ref 34, .ref 39, .ref 42, .long 0]), .inr (1, [.ref 8, .int 0, .ref 9, .ref 10, .ref 11, .int 0]), .inl (0, (96, .inl fun _ => 0)), .inl (3, (48, .inr (.inl fun _ => 0))), .inl (0, (48, .inl fun _ => 0)), .inl (0, (48, .inl fun _ => 0)), .inl (5, (3, .inr (.inr (.inr (.inr am_lg))))), .inr (2, [.int 0, .ref 14, .ref 15, .int 0, .ref 16, .int 0]), .inl (3, (8, .inr (.inl fun _ => 0))), .inl (3, (8, .inr (.inl fun _ => 0))), .inl (3, (32, .inr (.inl fun _ => 0))), .inr (2, [.int 1, .ref 18, .ref 19, .int 0, .ref 20, .int 0]), .inl (3, (8, .inr (.inl fun _ => 0))), .inl (3, (8, .inr (.inl fun _ => 0))), .inl (3, (32, .inr (.inl fun _ => 0))), .inr (2, [.int 2, .ref 22, .ref 23, .int 0, .ref 24, .int 0]), .inl (3, (8, .inr (.inl fun _ => 0))), .inl (3, (8, .inr (.inl fun _ => 0))), .inl (3, (32, .inr (.inl fun _ => 0))), .inr (3, [.ref 26, .ref 27, .ref 28, .ref 29, .int 0, .ref 30, .ref 31, .ref 32, .ref 33, .int 0]), .inl (0, (40, .inl fun _ => 0)), .inl (0, (40, .inl fun _ => 0)), .inl (2, (40, .inl fun _ => 0)), .inl (0, (41, .inl fun _ => 0)), .inl (3, (400, .inr (.inl fun _ => 0))), .inl (3, (400, .inr (.inl fun _ => 0))), .inl (0, (400, .inl fun _ => 0)), .inl (0, (400, .inl fun _ => 0)), .inr (4, [.ref 7, .ref 35, .ref 36, .int 0, .ref 37, .ref 38, .int 0, .int 0, .int 0]), .inr (5, [.int 0, .ref 0, .int 0]), .inl (3, (48, .inr (.inl fun _ => 0))), .inl (3, (48, .inr (.inl fun _ => 0))), .inl (3, (48, .inr (.inl fun _ => 0))), .inr (6, [.ref 40, .ref 41, .int 0]), .inl (0, (40, .inl fun _ => 0)), .inl (3, (40, .inr (.inl fun _ => 0))), .inr (7, [.ref 43, .ref 44, .int 0, .ref 45, .int 0, .ref 46, .ref 47]), .inl (3, (400, .inr (.inl fun _ => 0))), .inl (0, (400, .inl fun _ => 0)), .inl (0, (12, .inl fun _ => 0)), .inl (0, (12, .inl fun _ => 0)), .inl (0, (13, .inl fun _ => 0))] _
  refine go_s rfl rfl rfl (by first | trivial | decide) ?_
  refine go_s rfl rfl rfl (by first | trivial | decide) ?_
  refine go_s rfl rfl rfl (by first | trivial | decide) ?_
  exact go_r rfl rfl rfl trivial ⟨rfl, rfl⟩
/-- the first rows of stop words -/
def p00 (i : Nat) : Nat := match i with
  | 0 => 16
  | 1 => 20
  | 2 => 24
  | _ => 0
/-- the heap behind the two constructors -/
abbrev hS0 (L : Nat) (xs : Nat → Int32) : List am_C := am_hp (am_TC L xs (fun _ => 0) (fun _ _ => 0) (fun _ _ => 0) 0 p00) (am_M (fun _ => 0) (fun _ _ => 0) (fun _ => 0)) []
theorem law_new {L : Nat} {xs : Nat → Int32} {Q : Option Value → List am_C → Prop} (kk : Go m_Law_law 18 [some (.ref 5), some (.ref 6), some (.ref 48), some (.int 0)] [] (hS0 L xs) Q) : Go m_Law_law 0 [some (.ref 5), none, none, none] [] (am_h0 L xs) Q := by
  refine go_s rfl rfl rfl (by first | trivial | decide) ?_
  refine go_s rfl rfl rfl (by first | trivial | decide) ?_
  refine go_c rfl rfl rfl i_TI ?_
  rintro r h0 ⟨rfl, rfl⟩
  refine go_s rfl rfl rfl (by first | trivial | decide) ?_
  refine go_s rfl rfl rfl (by first | trivial | decide) ?_
  refine go_s rfl rfl rfl (by first | trivial | decide) ?_
  refine go_c rfl rfl rfl i_Mo ?_
  rintro r h0 ⟨rfl, rfl⟩
  refine go_s rfl rfl rfl (by first | trivial | decide) ?_
  refine go_s rfl rfl rfl (by first | trivial | decide) ?_
  refine go_s rfl rfl rfl (by first | trivial | decide) ?_
  exact kk
