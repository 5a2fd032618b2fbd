/-! ===== the constructors ===== -/
theorem i_Ta {t0 t1 t2 t3 t4 t5 t6 : am_C} : Do m_Ta_init [.ref 7] [t0, t1, t2, t3, t4, t5, t6, .inr (1, [.null, .int 0, .null, .null, .null, .int 0])] (fun r h' => r = none ∧ h' = [t0, t1, t2, t3, t4, t5, t6, .inr (1, [.ref 8, .int 0, .ref 9, .ref 10, .ref 11, .int 0]), .inl (0, (96, .inl fun _ => 0)), .inl (3, (48, .inr (.inl fun _ => 0))), .inl (0, (48, .inl fun _ => 0)), .inl (0, (48, .inl fun _ => 0))]) := by
  refine go_s rfl rfl rfl (by first | trivial | decide) ?_
  refine go_s rfl rfl rfl (by first | trivial | decide) ?_
  refine go_s rfl rfl rfl (by first | trivial | decide) ?_
  refine go_s rfl rfl rfl (by first | trivial | decide) ?_
  refine go_s rfl rfl rfl (by first | trivial | decide) ?_
  refine go_s rfl rfl rfl (by first | trivial | decide) ?_
  change Go m_Ta_init 12 [some (.ref 7)] [] [t0, t1, t2, t3, t4, t5, t6, .inr (1, [.ref 8, .int 0, .null, .null, .null, .int 0]), .inl (0, (96, .inl fun _ => 0))] _
  refine go_s rfl rfl rfl (by first | trivial | decide) ?_
  refine go_s rfl rfl rfl (by first | trivial | decide) ?_
  refine go_s rfl rfl rfl (by first | trivial | decide) ?_
  refine go_s rfl rfl rfl (by first | trivial | decide) ?_
  change Go m_Ta_init 20 [some (.ref 7)] [] [t0, t1, t2, t3, t4, t5, t6, .inr (1, [.ref 8, .int 0, .ref 9, .null, .null, .int 0]), .inl (0, (96, .inl fun _ => 0)), .inl (3, (48, .inr (.inl fun _ => 0)))] _
  refine go_s rfl rfl rfl (by first | trivial | decide) ?_
  refine go_s rfl rfl rfl (by first | trivial | decide) ?_
  refine go_s rfl rfl rfl (by first | trivial | decide) ?_
  refine go_s rfl rfl rfl (by first | trivial | decide) ?_
  change Go m_Ta_init 28 [some (.ref 7)] [] [t0, t1, t2, t3, t4, t5, t6, .inr (1, [.ref 8, .int 0, .ref 9, .ref 10, .null, .int 0]), .inl (0, (96, .inl fun _ => 0)), .inl (3, (48, .inr (.inl fun _ => 0))), .inl (0, (48, .inl fun _ => 0))] _
  refine go_s rfl rfl rfl (by first | trivial | decide) ?_
  refine go_s rfl rfl rfl (by first | trivial | decide) ?_
  refine go_s rfl rfl rfl (by first | trivial | decide) ?_
  refine go_s rfl rfl rfl (by first | trivial | decide) ?_
  change Go m_Ta_init 36 [some (.ref 7)] [] [t0, t1, t2, t3, t4, t5, t6, .inr (1, [.ref 8, .int 0, .ref 9, .ref 10, .ref 11, .int 0]), .inl (0, (96, .inl fun _ => 0)), .inl (3, (48, .inr (.inl fun _ => 0))), .inl (0, (48, .inl fun _ => 0)), .inl (0, (48, .inl fun _ => 0))] _
  exact go_r rfl rfl rfl trivial ⟨rfl, rfl⟩
theorem i_La0 {t0 t1 t2 t3 t4 t5 t6 t7 t8 t9 t10 t11 t12 : am_C} (x : Int32) : Do m_La_init [.ref 13, .int x] [t0, t1, t2, t3, t4, t5, t6, t7, t8, t9, t10, t11, t12, .inr (2, [.int 0, .null, .null, .int 0, .null, .int 0])] (fun r h' => r = none ∧ h' = [t0, t1, t2, t3, t4, t5, t6, t7, t8, t9, t10, t11, t12, .inr (2, [.int x, .ref 14, .ref 15, .int 0, .ref 16, .int 0]), .inl (3, (8, .inr (.inl fun _ => 0))), .inl (3, (8, .inr (.inl fun _ => 0))), .inl (3, (32, .inr (.inl fun _ => 0)))]) := by
  refine go_s rfl rfl rfl (by first | trivial | decide) ?_
  refine go_s rfl rfl rfl (by first | trivial | decide) ?_
  refine go_s rfl rfl rfl (by first | trivial | decide) ?_
  refine go_s rfl rfl rfl (by first | trivial | decide) ?_
  refine go_s rfl rfl rfl (by first | trivial | decide) ?_
  refine go_s rfl rfl rfl (by first | trivial | decide) ?_
  change Go m_La_init 12 [some (.ref 13), some (.int x)] [] [t0, t1, t2, t3, t4, t5, t6, t7, t8, t9, t10, t11, t12, .inr (2, [.int 0, .ref 14, .null, .int 0, .null, .int 0]), .inl (3, (8, .inr (.inl fun _ => 0)))] _
  refine go_s rfl rfl rfl (by first | trivial | decide) ?_
  refine go_s rfl rfl rfl (by first | trivial | decide) ?_
  refine go_s rfl rfl rfl (by first | trivial | decide) ?_
  refine go_s rfl rfl rfl (by first | trivial | decide) ?_
  change Go m_La_init 20 [some (.ref 13), some (.int x)] [] [t0, t1, t2, t3, t4, t5, t6, t7, t8, t9, t10, t11, t12, .inr (2, [.int 0, .ref 14, .ref 15, .int 0, .null, .int 0]), .inl (3, (8, .inr (.inl fun _ => 0))), .inl (3, (8, .inr (.inl fun _ => 0)))] _
  refine go_s rfl rfl rfl (by first | trivial | decide) ?_
  refine go_s rfl rfl rfl (by first | trivial | decide) ?_
  refine go_s rfl rfl rfl (by first | trivial | decide) ?_
  refine go_s rfl rfl rfl (by first | trivial | decide) ?_
  change Go m_La_init 28 [some (.ref 13), some (.int x)] [] [t0, t1, t2, t3, t4, t5, t6, t7, t8, t9, t10, t11, t12, .inr (2, [.int 0, .ref 14, .ref 15, .int 0, .ref 16, .int 0]), .inl (3, (8, .inr (.inl fun _ => 0))), .inl (3, (8, .inr (.inl fun _ => 0))), .inl (3, (32, .inr (.inl fun _ => 0)))] _
  refine go_s rfl rfl rfl (by first | trivial | decide) ?_
  refine go_s rfl rfl rfl (by first | trivial | decide) ?_
  refine go_s rfl rfl rfl (by first | trivial | decide) ?_
  exact go_r rfl rfl rfl trivial ⟨rfl, rfl⟩
theorem i_La1 {t0 t1 t2 t3 t4 t5 t6 t7 t8 t9 t10 t11 t12 t13 t14 t15 t16 : am_C} (x : Int32) : Do m_La_init [.ref 17, .int x] [t0, t1, t2, t3, t4, t5, t6, t7, t8, t9, t10, t11, t12, t13, t14, t15, t16, .inr (2, [.int 0, .null, .null, .int 0, .null, .int 0])] (fun r h' => r = none ∧ h' = [t0, t1, t2, t3, t4, t5, t6, t7, t8, t9, t10, t11, t12, t13, t14, t15, t16, .inr (2, [.int x, .ref 18, .ref 19, .int 0, .ref 20, .int 0]), .inl (3, (8, .inr (.inl fun _ => 0))), .inl (3, (8, .inr (.inl fun _ => 0))), .inl (3, (32, .inr (.inl fun _ => 0)))]) := by
  refine go_s rfl rfl rfl (by first | trivial | decide) ?_
  refine go_s rfl rfl rfl (by first | trivial | decide) ?_
  refine go_s rfl rfl rfl (by first | trivial | decide) ?_
  refine go_s rfl rfl rfl (by first | trivial | decide) ?_
  refine go_s rfl rfl rfl (by first | trivial | decide) ?_
  refine go_s rfl rfl rfl (by first | trivial | decide) ?_
  change Go m_La_init 12 [some (.ref 17), some (.int x)] [] [t0, t1, t2, t3, t4, t5, t6, t7, t8, t9, t10, t11, t12, t13, t14, t15, t16, .inr (2, [.int 0, .ref 18, .null, .int 0, .null, .int 0]), .inl (3, (8, .inr (.inl fun _ => 0)))] _
  refine go_s rfl rfl rfl (by first | trivial | decide) ?_
  refine go_s rfl rfl rfl (by first | trivial | decide) ?_
  refine go_s rfl rfl rfl (by first | trivial | decide) ?_
  refine go_s rfl rfl rfl (by first | trivial | decide) ?_
  change Go m_La_init 20 [some (.ref 17), some (.int x)] [] [t0, t1, t2, t3, t4, t5, t6, t7, t8, t9, t10, t11, t12, t13, t14, t15, t16, .inr (2, [.int 0, .ref 18, .ref 19, .int 0, .null, .int 0]), .inl (3, (8, .inr (.inl fun _ => 0))), .inl (3, (8, .inr (.inl fun _ => 0)))] _
  refine go_s rfl rfl rfl (by first | trivial | decide) ?_
  refine go_s rfl rfl rfl (by first | trivial | decide) ?_
  refine go_s rfl rfl rfl (by first | trivial | decide) ?_
  refine go_s rfl rfl rfl (by first | trivial | decide) ?_
  change Go m_La_init 28 [some (.ref 17), some (.int x)] [] [t0, t1, t2, t3, t4, t5, t6, t7, t8, t9, t10, t11, t12, t13, t14, t15, t16, .inr (2, [.int 0, .ref 18, .ref 19, .int 0, .ref 20, .int 0]), .inl (3, (8, .inr (.inl fun _ => 0))), .inl (3, (8, .inr (.inl fun _ => 0))), .inl (3, (32, .inr (.inl fun _ => 0)))] _
  refine go_s rfl rfl rfl (by first | trivial | decide) ?_
  refine go_s rfl rfl rfl (by first | trivial | decide) ?_
  refine go_s rfl rfl rfl (by first | trivial | decide) ?_
  exact go_r rfl rfl rfl trivial ⟨rfl, rfl⟩
theorem i_La2 {t0 t1 t2 t3 t4 t5 t6 t7 t8 t9 t10 t11 t12 t13 t14 t15 t16 t17 t18 t19 t20 : am_C} (x : Int32) : Do m_La_init [.ref 21, .int x] [t0, t1, t2, t3, t4, t5, t6, t7, t8, t9, t10, t11, t12, t13, t14, t15, t16, t17, t18, t19, t20, .inr (2, [.int 0, .null, .null, .int 0, .null, .int 0])] (fun r h' => r = none ∧ h' = [t0, t1, t2, t3, t4, t5, t6, t7, t8, t9, t10, t11, t12, t13, t14, t15, t16, t17, t18, t19, t20, .inr (2, [.int x, .ref 22, .ref 23, .int 0, .ref 24, .int 0]), .inl (3, (8, .inr (.inl fun _ => 0))), .inl (3, (8, .inr (.inl fun _ => 0))), .inl (3, (32, .inr (.inl fun _ => 0)))]) := by
  refine go_s rfl rfl rfl (by first | trivial | decide) ?_
  refine go_s rfl rfl rfl (by first | trivial | decide) ?_
  refine go_s rfl rfl rfl (by first | trivial | decide) ?_
  refine go_s rfl rfl rfl (by first | trivial | decide) ?_
  refine go_s rfl rfl rfl (by first | trivial | decide) ?_
  refine go_s rfl rfl rfl (by first | trivial | decide) ?_
  change Go m_La_init 12 [some (.ref 21), some (.int x)] [] [t0, t1, t2, t3, t4, t5, t6, t7, t8, t9, t10, t11, t12, t13, t14, t15, t16, t17, t18, t19, t20, .inr (2, [.int 0, .ref 22, .null, .int 0, .null, .int 0]), .inl (3, (8, .inr (.inl fun _ => 0)))] _
  refine go_s rfl rfl rfl (by first | trivial | decide) ?_
  refine go_s rfl rfl rfl (by first | trivial | decide) ?_
  refine go_s rfl rfl rfl (by first | trivial | decide) ?_
  refine go_s rfl rfl rfl (by first | trivial | decide) ?_
  change Go m_La_init 20 [some (.ref 21), some (.int x)] [] [t0, t1, t2, t3, t4, t5, t6, t7, t8, t9, t10, t11, t12, t13, t14, t15, t16, t17, t18, t19, t20, .inr (2, [.int 0, .ref 22, .ref 23, .int 0, .null, .int 0]), .inl (3, (8, .inr (.inl fun _ => 0))), .inl (3, (8, .inr (.inl fun _ => 0)))] _
  refine go_s rfl rfl rfl (by first | trivial | decide) ?_
  refine go_s rfl rfl rfl (by first | trivial | decide) ?_
  refine go_s rfl rfl rfl (by first | trivial | decide) ?_
  refine go_s rfl rfl rfl (by first | trivial | decide) ?_
  change Go m_La_init 28 [some (.ref 21), some (.int x)] [] [t0, t1, t2, t3, t4, t5, t6, t7, t8, t9, t10, t11, t12, t13, t14, t15, t16, t17, t18, t19, t20, .inr (2, [.int 0, .ref 22, .ref 23, .int 0, .ref 24, .int 0]), .inl (3, (8, .inr (.inl fun _ => 0))), .inl (3, (8, .inr (.inl fun _ => 0))), .inl (3, (32, .inr (.inl fun _ => 0)))] _
  refine go_s rfl rfl rfl (by first | trivial | decide) ?_
  refine go_s rfl rfl rfl (by first | trivial | decide) ?_
  refine go_s rfl rfl rfl (by first | trivial | decide) ?_
  exact go_r rfl rfl rfl trivial ⟨rfl, rfl⟩
theorem i_Sh {t0 t1 t2 t3 t4 t5 t6 t7 t8 t9 t10 t11 t12 t13 t14 t15 t16 t17 t18 t19 t20 t21 t22 t23 t24 : am_C} : Do m_Sh_init [.ref 25] [t0, t1, t2, t3, t4, t5, t6, t7, t8, t9, t10, t11, t12, t13, t14, t15, t16, t17, t18, t19, t20, t21, t22, t23, t24, .inr (3, [.null, .null, .null, .null, .int 0, .null, .null, .null, .null, .int 0])] (fun r h' => r = none ∧ h' = [t0, t1, t2, t3, t4, t5, t6, t7, t8, t9, t10, t11, t12, t13, t14, t15, t16, t17, t18, t19, t20, t21, t22, t23, t24, .inr (3, [.ref 26, .ref 27, .ref 28, .ref 29, .int 0, .ref 30, .ref 31, .ref 32, .ref 33, .int 0]), .inl (0, (40, .inl fun _ => 0)), .inl (0, (40, .inl fun _ => 0)), .inl (2, (40, .inl fun _ => 0)), .inl (0, (41, .inl fun _ => 0)), .inl (3, (400, .inr (.inl fun _ => 0))), .inl (3, (400, .inr (.inl fun _ => 0))), .inl (0, (400, .inl fun _ => 0)), .inl (0, (400, .inl fun _ => 0))]) := by
  refine go_s rfl rfl rfl (by first | trivial | decide) ?_
  refine go_s rfl rfl rfl (by first | trivial | decide) ?_
  refine go_s rfl rfl rfl (by first | trivial | decide) ?_
  refine go_s rfl rfl rfl (by first | trivial | decide) ?_
  refine go_s rfl rfl rfl (by first | trivial | decide) ?_
  refine go_s rfl rfl rfl (by first | trivial | decide) ?_
  change Go m_Sh_init 12 [some (.ref 25)] [] [t0, t1, t2, t3, t4, t5, t6, t7, t8, t9, t10, t11, t12, t13, t14, t15, t16, t17, t18, t19, t20, t21, t22, t23, t24, .inr (3, [.ref 26, .null, .null, .null, .int 0, .null, .null, .null, .null, .int 0]), .inl (0, (40, .inl fun _ => 0))] _
  refine go_s rfl rfl rfl (by first | trivial | decide) ?_
  refine go_s rfl rfl rfl (by first | trivial | decide) ?_
  refine go_s rfl rfl rfl (by first | trivial | decide) ?_
  refine go_s rfl rfl rfl (by first | trivial | decide) ?_
  change Go m_Sh_init 20 [some (.ref 25)] [] [t0, t1, t2, t3, t4, t5, t6, t7, t8, t9, t10, t11, t12, t13, t14, t15, t16, t17, t18, t19, t20, t21, t22, t23, t24, .inr (3, [.ref 26, .ref 27, .null, .null, .int 0, .null, .null, .null, .null, .int 0]), .inl (0, (40, .inl fun _ => 0)), .inl (0, (40, .inl fun _ => 0))] _
  refine go_s rfl rfl rfl (by first | trivial | decide) ?_
  refine go_s rfl rfl rfl (by first | trivial | decide) ?_
  refine go_s rfl rfl rfl (by first | trivial | decide) ?_
  refine go_s rfl rfl rfl (by first | trivial | decide) ?_
  change Go m_Sh_init 28 [some (.ref 25)] [] [t0, t1, t2, t3, t4, t5, t6, t7, t8, t9, t10, t11, t12, t13, t14, t15, t16, t17, t18, t19, t20, t21, t22, t23, t24, .inr (3, [.ref 26, .ref 27, .ref 28, .null, .int 0, .null, .null, .null, .null, .int 0]), .inl (0, (40, .inl fun _ => 0)), .inl (0, (40, .inl fun _ => 0)), .inl (2, (40, .inl fun _ => 0))] _
  refine go_s rfl rfl rfl (by first | trivial | decide) ?_
  refine go_s rfl rfl rfl (by first | trivial | decide) ?_
  refine go_s rfl rfl rfl (by first | trivial | decide) ?_
  refine go_s rfl rfl rfl (by first | trivial | decide) ?_
  change Go m_Sh_init 36 [some (.ref 25)] [] [t0, t1, t2, t3, t4, t5, t6, t7, t8, t9, t10, t11, t12, t13, t14, t15, t16, t17, t18, t19, t20, t21, t22, t23, t24, .inr (3, [.ref 26, .ref 27, .ref 28, .ref 29, .int 0, .null, .null, .null, .null, .int 0]), .inl (0, (40, .inl fun _ => 0)), .inl (0, (40, .inl fun _ => 0)), .inl (2, (40, .inl fun _ => 0)), .inl (0, (41, .inl fun _ => 0))] _
  refine go_s rfl rfl rfl (by first | trivial | decide) ?_
  refine go_s rfl rfl rfl (by first | trivial | decide) ?_
  refine go_s rfl rfl rfl (by first | trivial | decide) ?_
  refine go_s rfl rfl rfl (by first | trivial | decide) ?_
  change Go m_Sh_init 45 [some (.ref 25)] [] [t0, t1, t2, t3, t4, t5, t6, t7, t8, t9, t10, t11, t12, t13, t14, t15, t16, t17, t18, t19, t20, t21, t22, t23, t24, .inr (3, [.ref 26, .ref 27, .ref 28, .ref 29, .int 0, .ref 30, .null, .null, .null, .int 0]), .inl (0, (40, .inl fun _ => 0)), .inl (0, (40, .inl fun _ => 0)), .inl (2, (40, .inl fun _ => 0)), .inl (0, (41, .inl fun _ => 0)), .inl (3, (400, .inr (.inl fun _ => 0)))] _
  refine go_s rfl rfl rfl (by first | trivial | decide) ?_
  refine go_s rfl rfl rfl (by first | trivial | decide) ?_
  refine go_s rfl rfl rfl (by first | trivial | decide) ?_
  refine go_s rfl rfl rfl (by first | trivial | decide) ?_
  change Go m_Sh_init 54 [some (.ref 25)] [] [t0, t1, t2, t3, t4, t5, t6, t7, t8, t9, t10, t11, t12, t13, t14, t15, t16, t17, t18, t19, t20, t21, t22, t23, t24, .inr (3, [.ref 26, .ref 27, .ref 28, .ref 29, .int 0, .ref 30, .ref 31, .null, .null, .int 0]), .inl (0, (40, .inl fun _ => 0)), .inl (0, (40, .inl fun _ => 0)), .inl (2, (40, .inl fun _ => 0)), .inl (0, (41, .inl fun _ => 0)), .inl (3, (400, .inr (.inl fun _ => 0))), .inl (3, (400, .inr (.inl fun _ => 0)))] _
  refine go_s rfl rfl rfl (by first | trivial | decide) ?_
  refine go_s rfl rfl rfl (by first | trivial | decide) ?_
  refine go_s rfl rfl rfl (by first | trivial | decide) ?_
  refine go_s rfl rfl rfl (by first | trivial | decide) ?_
  change Go m_Sh_init 63 [some (.ref 25)] [] [t0, t1, t2, t3, t4, t5, t6, t7, t8, t9, t10, t11, t12, t13, t14, t15, t16, t17, t18, t19, t20, t21, t22, t23, t24, .inr (3, [.ref 26, .ref 27, .ref 28, .ref 29, .int 0, .ref 30, .ref 31, .ref 32, .null, .int 0]), .inl (0, (40, .inl fun _ => 0)), .inl (0, (40, .inl fun _ => 0)), .inl (2, (40, .inl fun _ => 0)), .inl (0, (41, .inl fun _ => 0)), .inl (3, (400, .inr (.inl fun _ => 0))), .inl (3, (400, .inr (.inl fun _ => 0))), .inl (0, (400, .inl fun _ => 0))] _
  refine go_s rfl rfl rfl (by first | trivial | decide) ?_
  refine go_s rfl rfl rfl (by first | trivial | decide) ?_
  refine go_s rfl rfl rfl (by first | trivial | decide) ?_
  refine go_s rfl rfl rfl (by first | trivial | decide) ?_
  change Go m_Sh_init 72 [some (.ref 25)] [] [t0, t1, t2, t3, t4, t5, t6, t7, t8, t9, t10, t11, t12, t13, t14, t15, t16, t17, t18, t19, t20, t21, t22, t23, t24, .inr (3, [.ref 26, .ref 27, .ref 28, .ref 29, .int 0, .ref 30, .ref 31, .ref 32, .ref 33, .int 0]), .inl (0, (40, .inl fun _ => 0)), .inl (0, (40, .inl fun _ => 0)), .inl (2, (40, .inl fun _ => 0)), .inl (0, (41, .inl fun _ => 0)), .inl (3, (400, .inr (.inl fun _ => 0))), .inl (3, (400, .inr (.inl fun _ => 0))), .inl (0, (400, .inl fun _ => 0)), .inl (0, (400, .inl fun _ => 0))] _
  exact go_r rfl rfl rfl trivial ⟨rfl, rfl⟩
theorem i_An {t0 t1 t2 t3 t4 t5 t6 t7 t8 t9 t10 t11 t12 t13 t14 t15 t16 t17 t18 t19 t20 t21 t22 t23 t24 t25 t26 t27 t28 t29 t30 t31 t32 t33 t34 t35 t36 t37 t38 : am_C} : Do m_An_init [.ref 39] [t0, t1, t2, t3, t4, t5, t6, t7, t8, t9, t10, t11, t12, t13, t14, t15, t16, t17, t18, t19, t20, t21, t22, t23, t24, t25, t26, t27, t28, t29, t30, t31, t32, t33, t34, t35, t36, t37, t38, .inr (6, [.null, .null, .int 0])] (fun r h' => r = none ∧ h' = [t0, t1, t2, t3, t4, t5, t6, t7, t8, t9, t10, t11, t12, t13, t14, t15, t16, t17, t18, t19, t20, t21, t22, t23, t24, t25, t26, t27, t28, t29, t30, t31, t32, t33, t34, t35, t36, t37, t38, .inr (6, [.ref 40, .ref 41, .int 0]), .inl (0, (40, .inl fun _ => 0)), .inl (3, (40, .inr (.inl fun _ => 0)))]) := by
  refine go_s rfl rfl rfl (by first | trivial | decide) ?_
  refine go_s rfl rfl rfl (by first | trivial | decide) ?_
  refine go_s rfl rfl rfl (by first | trivial | decide) ?_
  refine go_s rfl rfl rfl (by first | trivial | decide) ?_
  refine go_s rfl rfl rfl (by first | trivial | decide) ?_
  refine go_s rfl rfl rfl (by first | trivial | decide) ?_
  change Go m_An_init 12 [some (.ref 39)] [] [t0, t1, t2, t3, t4, t5, t6, t7, t8, t9, t10, t11, t12, t13, t14, t15, t16, t17, t18, t19, t20, t21, t22, t23, t24, t25, t26, t27, t28, t29, t30, t31, t32, t33, t34, t35, t36, t37, t38, .inr (6, [.ref 40, .null, .int 0]), .inl (0, (40, .inl fun _ => 0))] _
  refine go_s rfl rfl rfl (by first | trivial | decide) ?_
  refine go_s rfl rfl rfl (by first | trivial | decide) ?_
  refine go_s rfl rfl rfl (by first | trivial | decide) ?_
  refine go_s rfl rfl rfl (by first | trivial | decide) ?_
  change Go m_An_init 20 [some (.ref 39)] [] [t0, t1, t2, t3, t4, t5, t6, t7, t8, t9, t10, t11, t12, t13, t14, t15, t16, t17, t18, t19, t20, t21, t22, t23, t24, t25, t26, t27, t28, t29, t30, t31, t32, t33, t34, t35, t36, t37, t38, .inr (6, [.ref 40, .ref 41, .int 0]), .inl (0, (40, .inl fun _ => 0)), .inl (3, (40, .inr (.inl fun _ => 0)))] _
  exact go_r rfl rfl rfl trivial ⟨rfl, rfl⟩
theorem i_Li {t0 t1 t2 t3 t4 t5 t6 t7 t8 t9 t10 t11 t12 t13 t14 t15 t16 t17 t18 t19 t20 t21 t22 t23 t24 t25 t26 t27 t28 t29 t30 t31 t32 t33 t34 t35 t36 t37 t38 t39 t40 t41 : am_C} : Do m_Li_init [.ref 42] [t0, t1, t2, t3, t4, t5, t6, t7, t8, t9, t10, t11, t12, t13, t14, t15, t16, t17, t18, t19, t20, t21, t22, t23, t24, t25, t26, t27, t28, t29, t30, t31, t32, t33, t34, t35, t36, t37, t38, t39, t40, t41, .inr (7, [.null, .null, .int 0, .null, .int 0, .null, .null])] (fun r h' => r = none ∧ h' = [t0, t1, t2, t3, t4, t5, t6, t7, t8, t9, t10, t11, t12, t13, t14, t15, t16, t17, t18, t19, t20, t21, t22, t23, t24, t25, t26, t27, t28, t29, t30, t31, t32, t33, t34, t35, t36, t37, t38, t39, t40, t41, .inr (7, [.ref 43, .ref 44, .int 0, .ref 45, .int 0, .ref 46, .ref 47]), .inl (3, (400, .inr (.inl fun _ => 0))), .inl (0, (400, .inl fun _ => 0)), .inl (0, (12, .inl fun _ => 0)), .inl (0, (12, .inl fun _ => 0)), .inl (0, (13, .inl fun _ => 0))]) := by
  refine go_s rfl rfl rfl (by first | trivial | decide) ?_
  refine go_s rfl rfl rfl (by first | trivial | decide) ?_
  refine go_s rfl rfl rfl (by first | trivial | decide) ?_
  refine go_s rfl rfl rfl (by first | trivial | decide) ?_
  refine go_s rfl rfl rfl (by first | trivial | decide) ?_
  refine go_s rfl rfl rfl (by first | trivial | decide) ?_
  change Go m_Li_init 13 [some (.ref 42)] [] [t0, t1, t2, t3, t4, t5, t6, t7, t8, t9, t10, t11, t12, t13, t14, t15, t16, t17, t18, t19, t20, t21, t22, t23, t24, t25, t26, t27, t28, t29, t30, t31, t32, t33, t34, t35, t36, t37, t38, t39, t40, t41, .inr (7, [.ref 43, .null, .int 0, .null, .int 0, .null, .null]), .inl (3, (400, .inr (.inl fun _ => 0)))] _
  refine go_s rfl rfl rfl (by first | trivial | decide) ?_
  refine go_s rfl rfl rfl (by first | trivial | decide) ?_
  refine go_s rfl rfl rfl (by first | trivial | decide) ?_
  refine go_s rfl rfl rfl (by first | trivial | decide) ?_
  change Go m_Li_init 22 [some (.ref 42)] [] [t0, t1, t2, t3, t4, t5, t6, t7, t8, t9, t10, t11, t12, t13, t14, t15, t16, t17, t18, t19, t20, t21, t22, t23, t24, t25, t26, t27, t28, t29, t30, t31, t32, t33, t34, t35, t36, t37, t38, t39, t40, t41, .inr (7, [.ref 43, .ref 44, .int 0, .null, .int 0, .null, .null]), .inl (3, (400, .inr (.inl fun _ => 0))), .inl (0, (400, .inl fun _ => 0))] _
  refine go_s rfl rfl rfl (by first | trivial | decide) ?_
  refine go_s rfl rfl rfl (by first | trivial | decide) ?_
  refine go_s rfl rfl rfl (by first | trivial | decide) ?_
  refine go_s rfl rfl rfl (by first | trivial | decide) ?_
  change Go m_Li_init 30 [some (.ref 42)] [] [t0, t1, t2, t3, t4, t5, t6, t7, t8, t9, t10, t11, t12, t13, t14, t15, t16, t17, t18, t19, t20, t21, t22, t23, t24, t25, t26, t27, t28, t29, t30, t31, t32, t33, t34, t35, t36, t37, t38, t39, t40, t41, .inr (7, [.ref 43, .ref 44, .int 0, .ref 45, .int 0, .null, .null]), .inl (3, (400, .inr (.inl fun _ => 0))), .inl (0, (400, .inl fun _ => 0)), .inl (0, (12, .inl fun _ => 0))] _
  refine go_s rfl rfl rfl (by first | trivial | decide) ?_
  refine go_s rfl rfl rfl (by first | trivial | decide) ?_
  refine go_s rfl rfl rfl (by first | trivial | decide) ?_
  refine go_s rfl rfl rfl (by first | trivial | decide) ?_
  change Go m_Li_init 38 [some (.ref 42)] [] [t0, t1, t2, t3, t4, t5, t6, t7, t8, t9, t10, t11, t12, t13, t14, t15, t16, t17, t18, t19, t20, t21, t22, t23, t24, t25, t26, t27, t28, t29, t30, t31, t32, t33, t34, t35, t36, t37, t38, t39, t40, t41, .inr (7, [.ref 43, .ref 44, .int 0, .ref 45, .int 0, .ref 46, .null]), .inl (3, (400, .inr (.inl fun _ => 0))), .inl (0, (400, .inl fun _ => 0)), .inl (0, (12, .inl fun _ => 0)), .inl (0, (12, .inl fun _ => 0))] _
  refine go_s rfl rfl rfl (by first | trivial | decide) ?_
  refine go_s rfl rfl rfl (by first | trivial | decide) ?_
  refine go_s rfl rfl rfl (by first | trivial | decide) ?_
  refine go_s rfl rfl rfl (by first | trivial | decide) ?_
  change Go m_Li_init 46 [some (.ref 42)] [] [t0, t1, t2, t3, t4, t5, t6, t7, t8, t9, t10, t11, t12, t13, t14, t15, t16, t17, t18, t19, t20, t21, t22, t23, t24, t25, t26, t27, t28, t29, t30, t31, t32, t33, t34, t35, t36, t37, t38, t39, t40, t41, .inr (7, [.ref 43, .ref 44, .int 0, .ref 45, .int 0, .ref 46, .ref 47]), .inl (3, (400, .inr (.inl fun _ => 0))), .inl (0, (400, .inl fun _ => 0)), .inl (0, (12, .inl fun _ => 0)), .inl (0, (12, .inl fun _ => 0)), .inl (0, (13, .inl fun _ => 0))] _
  exact go_r rfl rfl rfl trivial ⟨rfl, rfl⟩
theorem i_Mo {t0 t1 t2 t3 t4 t5 t6 t7 t8 t9 t10 t11 t12 t13 t14 t15 t16 t17 t18 t19 t20 t21 t22 t23 t24 t25 t26 t27 t28 t29 t30 t31 t32 t33 t34 t35 t36 t37 t38 t39 t40 t41 t42 t43 t44 t45 t46 t47 : am_C} : Do m_Mo_init [.ref 48] [t0, t1, t2, t3, t4, t5, t6, t7, t8, t9, t10, t11, t12, t13, t14, t15, t16, t17, t18, t19, t20, t21, t22, t23, t24, t25, t26, t27, t28, t29, t30, t31, t32, t33, t34, t35, t36, t37, t38, t39, t40, t41, t42, t43, t44, t45, t46, t47, .inr (8, [.null, .null, .null, .int 0, .null, .null, .null, .null, .null, .int 0, .int 0, .null, .int 0, .null, .int 0, .null, .null, .null, .null, .null, .null, .int 0, .int 0, .int 0, .int 0, .null, .null, .int 0, .null, .int 0, .null, .int 0, .null])] (fun r h' => r = none ∧ h' = [t0, t1, t2, t3, t4, t5, t6, t7, t8, t9, t10, t11, t12, t13, t14, t15, t16, t17, t18, t19, t20, t21, t22, t23, t24, t25, t26, t27, t28, t29, t30, t31, t32, t33, t34, t35, t36, t37, t38, t39, t40, t41, t42, t43, t44, t45, t46, t47, .inr (8, [.ref 49, .ref 50, .ref 51, .int 0, .ref 52, .ref 53, .ref 54, .ref 55, .ref 56, .int 0, .int 0, .ref 57, .int 0, .ref 58, .int 0, .ref 59, .ref 60, .ref 61, .ref 62, .ref 63, .ref 64, .int 0, .int 0, .int 0, .int 0, .ref 65, .ref 66, .int 0, .ref 67, .int 0, .ref 68, .int 0, .ref 69]), .inl (1, (72408, .inl fun _ => 0)), .inl (0, (6034, .inl fun _ => 0)), .inl (1, (96, .inl fun _ => 0)), .inl (0, (40, .inl fun _ => 0)), .inl (0, (40, .inl fun _ => 0)), .inl (0, (40, .inl fun _ => 0)), .inl (0, (1920, .inl fun _ => 0)), .inl (0, (1920, .inl fun _ => 0)), .inl (0, (2000, .inl fun _ => 0)), .inl (0, (3, .inl fun _ => 0)), .inl (0, (48, .inl fun _ => 0)), .inl (0, (48, .inl fun _ => 0)), .inl (0, (96, .inl fun _ => 0)), .inl (0, (96, .inl fun _ => 0)), .inl (0, (96, .inl fun _ => 0)), .inl (0, (96, .inl fun _ => 0)), .inl (0, (40, .inl fun _ => 0)), .inl (3, (40, .inr (.inl fun _ => 0))), .inl (0, (1920, .inl fun _ => 0)), .inl (1, (12, .inl fun _ => 0)), .inl (0, (169, .inl fun _ => 0))]) := by
  refine go_s rfl rfl rfl (by first | trivial | decide) ?_
  refine go_s rfl rfl rfl (by first | trivial | decide) ?_
  refine go_s rfl rfl rfl (by first | trivial | decide) ?_
  refine go_s rfl rfl rfl (by first | trivial | decide) ?_
  refine go_s rfl rfl rfl (by first | trivial | decide) ?_
  refine go_s rfl rfl rfl (by first | trivial | decide) ?_
  change Go m_Mo_init 12 [some (.ref 48)] [] [t0, t1, t2, t3, t4, t5, t6, t7, t8, t9, t10, t11, t12, t13, t14, t15, t16, t17, t18, t19, t20, t21, t22, t23, t24, t25, t26, t27, t28, t29, t30, t31, t32, t33, t34, t35, t36, t37, t38, t39, t40, t41, t42, t43, t44, t45, t46, t47, .inr (8, [.ref 49, .null, .null, .int 0, .null, .null, .null, .null, .null, .int 0, .int 0, .null, .int 0, .null, .int 0, .null, .null, .null, .null, .null, .null, .int 0, .int 0, .int 0, .int 0, .null, .null, .int 0, .null, .int 0, .null, .int 0, .null]), .inl (1, (72408, .inl fun _ => 0))] _
  refine go_s rfl rfl rfl (by first | trivial | decide) ?_
  refine go_s rfl rfl rfl (by first | trivial | decide) ?_
  refine go_s rfl rfl rfl (by first | trivial | decide) ?_
  refine go_s rfl rfl rfl (by first | trivial | decide) ?_
  change Go m_Mo_init 21 [some (.ref 48)] [] [t0, t1, t2, t3, t4, t5, t6, t7, t8, t9, t10, t11, t12, t13, t14, t15, t16, t17, t18, t19, t20, t21, t22, t23, t24, t25, t26, t27, t28, t29, t30, t31, t32, t33, t34, t35, t36, t37, t38, t39, t40, t41, t42, t43, t44, t45, t46, t47, .inr (8, [.ref 49, .ref 50, .null, .int 0, .null, .null, .null, .null, .null, .int 0, .int 0, .null, .int 0, .null, .int 0, .null, .null, .null, .null, .null, .null, .int 0, .int 0, .int 0, .int 0, .null, .null, .int 0, .null, .int 0, .null, .int 0, .null]), .inl (1, (72408, .inl fun _ => 0)), .inl (0, (6034, .inl fun _ => 0))] _
  refine go_s rfl rfl rfl (by first | trivial | decide) ?_
  refine go_s rfl rfl rfl (by first | trivial | decide) ?_
  refine go_s rfl rfl rfl (by first | trivial | decide) ?_
  refine go_s rfl rfl rfl (by first | trivial | decide) ?_
  change Go m_Mo_init 29 [some (.ref 48)] [] [t0, t1, t2, t3, t4, t5, t6, t7, t8, t9, t10, t11, t12, t13, t14, t15, t16, t17, t18, t19, t20, t21, t22, t23, t24, t25, t26, t27, t28, t29, t30, t31, t32, t33, t34, t35, t36, t37, t38, t39, t40, t41, t42, t43, t44, t45, t46, t47, .inr (8, [.ref 49, .ref 50, .ref 51, .int 0, .null, .null, .null, .null, .null, .int 0, .int 0, .null, .int 0, .null, .int 0, .null, .null, .null, .null, .null, .null, .int 0, .int 0, .int 0, .int 0, .null, .null, .int 0, .null, .int 0, .null, .int 0, .null]), .inl (1, (72408, .inl fun _ => 0)), .inl (0, (6034, .inl fun _ => 0)), .inl (1, (96, .inl fun _ => 0))] _
  refine go_s rfl rfl rfl (by first | trivial | decide) ?_
  refine go_s rfl rfl rfl (by first | trivial | decide) ?_
  refine go_s rfl rfl rfl (by first | trivial | decide) ?_
  refine go_s rfl rfl rfl (by first | trivial | decide) ?_
  change Go m_Mo_init 37 [some (.ref 48)] [] [t0, t1, t2, t3, t4, t5, t6, t7, t8, t9, t10, t11, t12, t13, t14, t15, t16, t17, t18, t19, t20, t21, t22, t23, t24, t25, t26, t27, t28, t29, t30, t31, t32, t33, t34, t35, t36, t37, t38, t39, t40, t41, t42, t43, t44, t45, t46, t47, .inr (8, [.ref 49, .ref 50, .ref 51, .int 0, .ref 52, .null, .null, .null, .null, .int 0, .int 0, .null, .int 0, .null, .int 0, .null, .null, .null, .null, .null, .null, .int 0, .int 0, .int 0, .int 0, .null, .null, .int 0, .null, .int 0, .null, .int 0, .null]), .inl (1, (72408, .inl fun _ => 0)), .inl (0, (6034, .inl fun _ => 0)), .inl (1, (96, .inl fun _ => 0)), .inl (0, (40, .inl fun _ => 0))] _
  refine go_s rfl rfl rfl (by first | trivial | decide) ?_
  refine go_s rfl rfl rfl (by first | trivial | decide) ?_
  refine go_s rfl rfl rfl (by first | trivial | decide) ?_
  refine go_s rfl rfl rfl (by first | trivial | decide) ?_
  change Go m_Mo_init 45 [some (.ref 48)] [] [t0, t1, t2, t3, t4, t5, t6, t7, t8, t9, t10, t11, t12, t13, t14, t15, t16, t17, t18, t19, t20, t21, t22, t23, t24, t25, t26, t27, t28, t29, t30, t31, t32, t33, t34, t35, t36, t37, t38, t39, t40, t41, t42, t43, t44, t45, t46, t47, .inr (8, [.ref 49, .ref 50, .ref 51, .int 0, .ref 52, .ref 53, .null, .null, .null, .int 0, .int 0, .null, .int 0, .null, .int 0, .null, .null, .null, .null, .null, .null, .int 0, .int 0, .int 0, .int 0, .null, .null, .int 0, .null, .int 0, .null, .int 0, .null]), .inl (1, (72408, .inl fun _ => 0)), .inl (0, (6034, .inl fun _ => 0)), .inl (1, (96, .inl fun _ => 0)), .inl (0, (40, .inl fun _ => 0)), .inl (0, (40, .inl fun _ => 0))] _
  refine go_s rfl rfl rfl (by first | trivial | decide) ?_
  refine go_s rfl rfl rfl (by first | trivial | decide) ?_
  refine go_s rfl rfl rfl (by first | trivial | decide) ?_
  refine go_s rfl rfl rfl (by first | trivial | decide) ?_
  change Go m_Mo_init 53 [some (.ref 48)] [] [t0, t1, t2, t3, t4, t5, t6, t7, t8, t9, t10, t11, t12, t13, t14, t15, t16, t17, t18, t19, t20, t21, t22, t23, t24, t25, t26, t27, t28, t29, t30, t31, t32, t33, t34, t35, t36, t37, t38, t39, t40, t41, t42, t43, t44, t45, t46, t47, .inr (8, [.ref 49, .ref 50, .ref 51, .int 0, .ref 52, .ref 53, .ref 54, .null, .null, .int 0, .int 0, .null, .int 0, .null, .int 0, .null, .null, .null, .null, .null, .null, .int 0, .int 0, .int 0, .int 0, .null, .null, .int 0, .null, .int 0, .null, .int 0, .null]), .inl (1, (72408, .inl fun _ => 0)), .inl (0, (6034, .inl fun _ => 0)), .inl (1, (96, .inl fun _ => 0)), .inl (0, (40, .inl fun _ => 0)), .inl (0, (40, .inl fun _ => 0)), .inl (0, (40, .inl fun _ => 0))] _
  refine go_s rfl rfl rfl (by first | trivial | decide) ?_
  refine go_s rfl rfl rfl (by first | trivial | decide) ?_
  refine go_s rfl rfl rfl (by first | trivial | decide) ?_
  refine go_s rfl rfl rfl (by first | trivial | decide) ?_
  change Go m_Mo_init 62 [some (.ref 48)] [] [t0, t1, t2, t3, t4, t5, t6, t7, t8, t9, t10, t11, t12, t13, t14, t15, t16, t17, t18, t19, t20, t21, t22, t23, t24, t25, t26, t27, t28, t29, t30, t31, t32, t33, t34, t35, t36, t37, t38, t39, t40, t41, t42, t43, t44, t45, t46, t47, .inr (8, [.ref 49, .ref 50, .ref 51, .int 0, .ref 52, .ref 53, .ref 54, .ref 55, .null, .int 0, .int 0, .null, .int 0, .null, .int 0, .null, .null, .null, .null, .null, .null, .int 0, .int 0, .int 0, .int 0, .null, .null, .int 0, .null, .int 0, .null, .int 0, .null]), .inl (1, (72408, .inl fun _ => 0)), .inl (0, (6034, .inl fun _ => 0)), .inl (1, (96, .inl fun _ => 0)), .inl (0, (40, .inl fun _ => 0)), .inl (0, (40, .inl fun _ => 0)), .inl (0, (40, .inl fun _ => 0)), .inl (0, (1920, .inl fun _ => 0))] _
  refine go_s rfl rfl rfl (by first | trivial | decide) ?_
  refine go_s rfl rfl rfl (by first | trivial | decide) ?_
  refine go_s rfl rfl rfl (by first | trivial | decide) ?_
  refine go_s rfl rfl rfl (by first | trivial | decide) ?_
  change Go m_Mo_init 71 [some (.ref 48)] [] [t0, t1, t2, t3, t4, t5, t6, t7, t8, t9, t10, t11, t12, t13, t14, t15, t16, t17, t18, t19, t20, t21, t22, t23, t24, t25, t26, t27, t28, t29, t30, t31, t32, t33, t34, t35, t36, t37, t38, t39, t40, t41, t42, t43, t44, t45, t46, t47, .inr (8, [.ref 49, .ref 50, .ref 51, .int 0, .ref 52, .ref 53, .ref 54, .ref 55, .ref 56, .int 0, .int 0, .null, .int 0, .null, .int 0, .null, .null, .null, .null, .null, .null, .int 0, .int 0, .int 0, .int 0, .null, .null, .int 0, .null, .int 0, .null, .int 0, .null]), .inl (1, (72408, .inl fun _ => 0)), .inl (0, (6034, .inl fun _ => 0)), .inl (1, (96, .inl fun _ => 0)), .inl (0, (40, .inl fun _ => 0)), .inl (0, (40, .inl fun _ => 0)), .inl (0, (40, .inl fun _ => 0)), .inl (0, (1920, .inl fun _ => 0)), .inl (0, (1920, .inl fun _ => 0))] _
  refine go_s rfl rfl rfl (by first | trivial | decide) ?_
  refine go_s rfl rfl rfl (by first | trivial | decide) ?_
  refine go_s rfl rfl rfl (by first | trivial | decide) ?_
  refine go_s rfl rfl rfl (by first | trivial | decide) ?_
  change Go m_Mo_init 80 [some (.ref 48)] [] [t0, t1, t2, t3, t4, t5, t6, t7, t8, t9, t10, t11, t12, t13, t14, t15, t16, t17, t18, t19, t20, t21, t22, t23, t24, t25, t26, t27, t28, t29, t30, t31, t32, t33, t34, t35, t36, t37, t38, t39, t40, t41, t42, t43, t44, t45, t46, t47, .inr (8, [.ref 49, .ref 50, .ref 51, .int 0, .ref 52, .ref 53, .ref 54, .ref 55, .ref 56, .int 0, .int 0, .ref 57, .int 0, .null, .int 0, .null, .null, .null, .null, .null, .null, .int 0, .int 0, .int 0, .int 0, .null, .null, .int 0, .null, .int 0, .null, .int 0, .null]), .inl (1, (72408, .inl fun _ => 0)), .inl (0, (6034, .inl fun _ => 0)), .inl (1, (96, .inl fun _ => 0)), .inl (0, (40, .inl fun _ => 0)), .inl (0, (40, .inl fun _ => 0)), .inl (0, (40, .inl fun _ => 0)), .inl (0, (1920, .inl fun _ => 0)), .inl (0, (1920, .inl fun _ => 0)), .inl (0, (2000, .inl fun _ => 0))] _
  refine go_s rfl rfl rfl (by first | trivial | decide) ?_
  refine go_s rfl rfl rfl (by first | trivial | decide) ?_
  refine go_s rfl rfl rfl (by first | trivial | decide) ?_
  refine go_s rfl rfl rfl (by first | trivial | decide) ?_
  change Go m_Mo_init 87 [some (.ref 48)] [] [t0, t1, t2, t3, t4, t5, t6, t7, t8, t9, t10, t11, t12, t13, t14, t15, t16, t17, t18, t19, t20, t21, t22, t23, t24, t25, t26, t27, t28, t29, t30, t31, t32, t33, t34, t35, t36, t37, t38, t39, t40, t41, t42, t43, t44, t45, t46, t47, .inr (8, [.ref 49, .ref 50, .ref 51, .int 0, .ref 52, .ref 53, .ref 54, .ref 55, .ref 56, .int 0, .int 0, .ref 57, .int 0, .ref 58, .int 0, .null, .null, .null, .null, .null, .null, .int 0, .int 0, .int 0, .int 0, .null, .null, .int 0, .null, .int 0, .null, .int 0, .null]), .inl (1, (72408, .inl fun _ => 0)), .inl (0, (6034, .inl fun _ => 0)), .inl (1, (96, .inl fun _ => 0)), .inl (0, (40, .inl fun _ => 0)), .inl (0, (40, .inl fun _ => 0)), .inl (0, (40, .inl fun _ => 0)), .inl (0, (1920, .inl fun _ => 0)), .inl (0, (1920, .inl fun _ => 0)), .inl (0, (2000, .inl fun _ => 0)), .inl (0, (3, .inl fun _ => 0))] _
  refine go_s rfl rfl rfl (by first | trivial | decide) ?_
  refine go_s rfl rfl rfl (by first | trivial | decide) ?_
  refine go_s rfl rfl rfl (by first | trivial | decide) ?_
  refine go_s rfl rfl rfl (by first | trivial | decide) ?_
  change Go m_Mo_init 95 [some (.ref 48)] [] [t0, t1, t2, t3, t4, t5, t6, t7, t8, t9, t10, t11, t12, t13, t14, t15, t16, t17, t18, t19, t20, t21, t22, t23, t24, t25, t26, t27, t28, t29, t30, t31, t32, t33, t34, t35, t36, t37, t38, t39, t40, t41, t42, t43, t44, t45, t46, t47, .inr (8, [.ref 49, .ref 50, .ref 51, .int 0, .ref 52, .ref 53, .ref 54, .ref 55, .ref 56, .int 0, .int 0, .ref 57, .int 0, .ref 58, .int 0, .ref 59, .null, .null, .null, .null, .null, .int 0, .int 0, .int 0, .int 0, .null, .null, .int 0, .null, .int 0, .null, .int 0, .null]), .inl (1, (72408, .inl fun _ => 0)), .inl (0, (6034, .inl fun _ => 0)), .inl (1, (96, .inl fun _ => 0)), .inl (0, (40, .inl fun _ => 0)), .inl (0, (40, .inl fun _ => 0)), .inl (0, (40, .inl fun _ => 0)), .inl (0, (1920, .inl fun _ => 0)), .inl (0, (1920, .inl fun _ => 0)), .inl (0, (2000, .inl fun _ => 0)), .inl (0, (3, .inl fun _ => 0)), .inl (0, (48, .inl fun _ => 0))] _
  refine go_s rfl rfl rfl (by first | trivial | decide) ?_
  refine go_s rfl rfl rfl (by first | trivial | decide) ?_
  refine go_s rfl rfl rfl (by first | trivial | decide) ?_
  refine go_s rfl rfl rfl (by first | trivial | decide) ?_
  change Go m_Mo_init 103 [some (.ref 48)] [] [t0, t1, t2, t3, t4, t5, t6, t7, t8, t9, t10, t11, t12, t13, t14, t15, t16, t17, t18, t19, t20, t21, t22, t23, t24, t25, t26, t27, t28, t29, t30, t31, t32, t33, t34, t35, t36, t37, t38, t39, t40, t41, t42, t43, t44, t45, t46, t47, .inr (8, [.ref 49, .ref 50, .ref 51, .int 0, .ref 52, .ref 53, .ref 54, .ref 55, .ref 56, .int 0, .int 0, .ref 57, .int 0, .ref 58, .int 0, .ref 59, .ref 60, .null, .null, .null, .null, .int 0, .int 0, .int 0, .int 0, .null, .null, .int 0, .null, .int 0, .null, .int 0, .null]), .inl (1, (72408, .inl fun _ => 0)), .inl (0, (6034, .inl fun _ => 0)), .inl (1, (96, .inl fun _ => 0)), .inl (0, (40, .inl fun _ => 0)), .inl (0, (40, .inl fun _ => 0)), .inl (0, (40, .inl fun _ => 0)), .inl (0, (1920, .inl fun _ => 0)), .inl (0, (1920, .inl fun _ => 0)), .inl (0, (2000, .inl fun _ => 0)), .inl (0, (3, .inl fun _ => 0)), .inl (0, (48, .inl fun _ => 0)), .inl (0, (48, .inl fun _ => 0))] _
  refine go_s rfl rfl rfl (by first | trivial | decide) ?_
  refine go_s rfl rfl rfl (by first | trivial | decide) ?_
  refine go_s rfl rfl rfl (by first | trivial | decide) ?_
  refine go_s rfl rfl rfl (by first | trivial | decide) ?_
  change Go m_Mo_init 111 [some (.ref 48)] [] [t0, t1, t2, t3, t4, t5, t6, t7, t8, t9, t10, t11, t12, t13, t14, t15, t16, t17, t18, t19, t20, t21, t22, t23, t24, t25, t26, t27, t28, t29, t30, t31, t32, t33, t34, t35, t36, t37, t38, t39, t40, t41, t42, t43, t44, t45, t46, t47, .inr (8, [.ref 49, .ref 50, .ref 51, .int 0, .ref 52, .ref 53, .ref 54, .ref 55, .ref 56, .int 0, .int 0, .ref 57, .int 0, .ref 58, .int 0, .ref 59, .ref 60, .ref 61, .null, .null, .null, .int 0, .int 0, .int 0, .int 0, .null, .null, .int 0, .null, .int 0, .null, .int 0, .null]), .inl (1, (72408, .inl fun _ => 0)), .inl (0, (6034, .inl fun _ => 0)), .inl (1, (96, .inl fun _ => 0)), .inl (0, (40, .inl fun _ => 0)), .inl (0, (40, .inl fun _ => 0)), .inl (0, (40, .inl fun _ => 0)), .inl (0, (1920, .inl fun _ => 0)), .inl (0, (1920, .inl fun _ => 0)), .inl (0, (2000, .inl fun _ => 0)), .inl (0, (3, .inl fun _ => 0)), .inl (0, (48, .inl fun _ => 0)), .inl (0, (48, .inl fun _ => 0)), .inl (0, (96, .inl fun _ => 0))] _
  refine go_s rfl rfl rfl (by first | trivial | decide) ?_
  refine go_s rfl rfl rfl (by first | trivial | decide) ?_
  refine go_s rfl rfl rfl (by first | trivial | decide) ?_
  refine go_s rfl rfl rfl (by first | trivial | decide) ?_
  change Go m_Mo_init 119 [some (.ref 48)] [] [t0, t1, t2, t3, t4, t5, t6, t7, t8, t9, t10, t11, t12, t13, t14, t15, t16, t17, t18, t19, t20, t21, t22, t23, t24, t25, t26, t27, t28, t29, t30, t31, t32, t33, t34, t35, t36, t37, t38, t39, t40, t41, t42, t43, t44, t45, t46, t47, .inr (8, [.ref 49, .ref 50, .ref 51, .int 0, .ref 52, .ref 53, .ref 54, .ref 55, .ref 56, .int 0, .int 0, .ref 57, .int 0, .ref 58, .int 0, .ref 59, .ref 60, .ref 61, .ref 62, .null, .null, .int 0, .int 0, .int 0, .int 0, .null, .null, .int 0, .null, .int 0, .null, .int 0, .null]), .inl (1, (72408, .inl fun _ => 0)), .inl (0, (6034, .inl fun _ => 0)), .inl (1, (96, .inl fun _ => 0)), .inl (0, (40, .inl fun _ => 0)), .inl (0, (40, .inl fun _ => 0)), .inl (0, (40, .inl fun _ => 0)), .inl (0, (1920, .inl fun _ => 0)), .inl (0, (1920, .inl fun _ => 0)), .inl (0, (2000, .inl fun _ => 0)), .inl (0, (3, .inl fun _ => 0)), .inl (0, (48, .inl fun _ => 0)), .inl (0, (48, .inl fun _ => 0)), .inl (0, (96, .inl fun _ => 0)), .inl (0, (96, .inl fun _ => 0))] _
  refine go_s rfl rfl rfl (by first | trivial | decide) ?_
  refine go_s rfl rfl rfl (by first | trivial | decide) ?_
  refine go_s rfl rfl rfl (by first | trivial | decide) ?_
  refine go_s rfl rfl rfl (by first | trivial | decide) ?_
  change Go m_Mo_init 127 [some (.ref 48)] [] [t0, t1, t2, t3, t4, t5, t6, t7, t8, t9, t10, t11, t12, t13, t14, t15, t16, t17, t18, t19, t20, t21, t22, t23, t24, t25, t26, t27, t28, t29, t30, t31, t32, t33, t34, t35, t36, t37, t38, t39, t40, t41, t42, t43, t44, t45, t46, t47, .inr (8, [.ref 49, .ref 50, .ref 51, .int 0, .ref 52, .ref 53, .ref 54, .ref 55, .ref 56, .int 0, .int 0, .ref 57, .int 0, .ref 58, .int 0, .ref 59, .ref 60, .ref 61, .ref 62, .ref 63, .null, .int 0, .int 0, .int 0, .int 0, .null, .null, .int 0, .null, .int 0, .null, .int 0, .null]), .inl (1, (72408, .inl fun _ => 0)), .inl (0, (6034, .inl fun _ => 0)), .inl (1, (96, .inl fun _ => 0)), .inl (0, (40, .inl fun _ => 0)), .inl (0, (40, .inl fun _ => 0)), .inl (0, (40, .inl fun _ => 0)), .inl (0, (1920, .inl fun _ => 0)), .inl (0, (1920, .inl fun _ => 0)), .inl (0, (2000, .inl fun _ => 0)), .inl (0, (3, .inl fun _ => 0)), .inl (0, (48, .inl fun _ => 0)), .inl (0, (48, .inl fun _ => 0)), .inl (0, (96, .inl fun _ => 0)), .inl (0, (96, .inl fun _ => 0)), .inl (0, (96, .inl fun _ => 0))] _
  refine go_s rfl rfl rfl (by first | trivial | decide) ?_
  refine go_s rfl rfl rfl (by first | trivial | decide) ?_
  refine go_s rfl rfl rfl (by first | trivial | decide) ?_
  refine go_s rfl rfl rfl (by first | trivial | decide) ?_
  change Go m_Mo_init 135 [some (.ref 48)] [] [t0, t1, t2, t3, t4, t5, t6, t7, t8, t9, t10, t11, t12, t13, t14, t15, t16, t17, t18, t19, t20, t21, t22, t23, t24, t25, t26, t27, t28, t29, t30, t31, t32, t33, t34, t35, t36, t37, t38, t39, t40, t41, t42, t43, t44, t45, t46, t47, .inr (8, [.ref 49, .ref 50, .ref 51, .int 0, .ref 52, .ref 53, .ref 54, .ref 55, .ref 56, .int 0, .int 0, .ref 57, .int 0, .ref 58, .int 0, .ref 59, .ref 60, .ref 61, .ref 62, .ref 63, .ref 64, .int 0, .int 0, .int 0, .int 0, .null, .null, .int 0, .null, .int 0, .null, .int 0, .null]), .inl (1, (72408, .inl fun _ => 0)), .inl (0, (6034, .inl fun _ => 0)), .inl (1, (96, .inl fun _ => 0)), .inl (0, (40, .inl fun _ => 0)), .inl (0, (40, .inl fun _ => 0)), .inl (0, (40, .inl fun _ => 0)), .inl (0, (1920, .inl fun _ => 0)), .inl (0, (1920, .inl fun _ => 0)), .inl (0, (2000, .inl fun _ => 0)), .inl (0, (3, .inl fun _ => 0)), .inl (0, (48, .inl fun _ => 0)), .inl (0, (48, .inl fun _ => 0)), .inl (0, (96, .inl fun _ => 0)), .inl (0, (96, .inl fun _ => 0)), .inl (0, (96, .inl fun _ => 0)), .inl (0, (96, .inl fun _ => 0))] _
  refine go_s rfl rfl rfl (by first | trivial | decide) ?_
  refine go_s rfl rfl rfl (by first | trivial | decide) ?_
  refine go_s rfl rfl rfl (by first | trivial | decide) ?_
  refine go_s rfl rfl rfl (by first | trivial | decide) ?_
  change Go m_Mo_init 143 [some (.ref 48)] [] [t0, t1, t2, t3, t4, t5, t6, t7, t8, t9, t10, t11, t12, t13, t14, t15, t16, t17, t18, t19, t20, t21, t22, t23, t24, t25, t26, t27, t28, t29, t30, t31, t32, t33, t34, t35, t36, t37, t38, t39, t40, t41, t42, t43, t44, t45, t46, t47, .inr (8, [.ref 49, .ref 50, .ref 51, .int 0, .ref 52, .ref 53, .ref 54, .ref 55, .ref 56, .int 0, .int 0, .ref 57, .int 0, .ref 58, .int 0, .ref 59, .ref 60, .ref 61, .ref 62, .ref 63, .ref 64, .int 0, .int 0, .int 0, .int 0, .ref 65, .null, .int 0, .null, .int 0, .null, .int 0, .null]), .inl (1, (72408, .inl fun _ => 0)), .inl (0, (6034, .inl fun _ => 0)), .inl (1, (96, .inl fun _ => 0)), .inl (0, (40, .inl fun _ => 0)), .inl (0, (40, .inl fun _ => 0)), .inl (0, (40, .inl fun _ => 0)), .inl (0, (1920, .inl fun _ => 0)), .inl (0, (1920, .inl fun _ => 0)), .inl (0, (2000, .inl fun _ => 0)), .inl (0, (3, .inl fun _ => 0)), .inl (0, (48, .inl fun _ => 0)), .inl (0, (48, .inl fun _ => 0)), .inl (0, (96, .inl fun _ => 0)), .inl (0, (96, .inl fun _ => 0)), .inl (0, (96, .inl fun _ => 0)), .inl (0, (96, .inl fun _ => 0)), .inl (0, (40, .inl fun _ => 0))] _
  refine go_s rfl rfl rfl (by first | trivial | decide) ?_
  refine go_s rfl rfl rfl (by first | trivial | decide) ?_
  refine go_s rfl rfl rfl (by first | trivial | decide) ?_
  refine go_s rfl rfl rfl (by first | trivial | decide) ?_
  change Go m_Mo_init 151 [some (.ref 48)] [] [t0, t1, t2, t3, t4, t5, t6, t7, t8, t9, t10, t11, t12, t13, t14, t15, t16, t17, t18, t19, t20, t21, t22, t23, t24, t25, t26, t27, t28, t29, t30, t31, t32, t33, t34, t35, t36, t37, t38, t39, t40, t41, t42, t43, t44, t45, t46, t47, .inr (8, [.ref 49, .ref 50, .ref 51, .int 0, .ref 52, .ref 53, .ref 54, .ref 55, .ref 56, .int 0, .int 0, .ref 57, .int 0, .ref 58, .int 0, .ref 59, .ref 60, .ref 61, .ref 62, .ref 63, .ref 64, .int 0, .int 0, .int 0, .int 0, .ref 65, .ref 66, .int 0, .null, .int 0, .null, .int 0, .null]), .inl (1, (72408, .inl fun _ => 0)), .inl (0, (6034, .inl fun _ => 0)), .inl (1, (96, .inl fun _ => 0)), .inl (0, (40, .inl fun _ => 0)), .inl (0, (40, .inl fun _ => 0)), .inl (0, (40, .inl fun _ => 0)), .inl (0, (1920, .inl fun _ => 0)), .inl (0, (1920, .inl fun _ => 0)), .inl (0, (2000, .inl fun _ => 0)), .inl (0, (3, .inl fun _ => 0)), .inl (0, (48, .inl fun _ => 0)), .inl (0, (48, .inl fun _ => 0)), .inl (0, (96, .inl fun _ => 0)), .inl (0, (96, .inl fun _ => 0)), .inl (0, (96, .inl fun _ => 0)), .inl (0, (96, .inl fun _ => 0)), .inl (0, (40, .inl fun _ => 0)), .inl (3, (40, .inr (.inl fun _ => 0)))] _
  refine go_s rfl rfl rfl (by first | trivial | decide) ?_
  refine go_s rfl rfl rfl (by first | trivial | decide) ?_
  refine go_s rfl rfl rfl (by first | trivial | decide) ?_
  refine go_s rfl rfl rfl (by first | trivial | decide) ?_
  change Go m_Mo_init 160 [some (.ref 48)] [] [t0, t1, t2, t3, t4, t5, t6, t7, t8, t9, t10, t11, t12, t13, t14, t15, t16, t17, t18, t19, t20, t21, t22, t23, t24, t25, t26, t27, t28, t29, t30, t31, t32, t33, t34, t35, t36, t37, t38, t39, t40, t41, t42, t43, t44, t45, t46, t47, .inr (8, [.ref 49, .ref 50, .ref 51, .int 0, .ref 52, .ref 53, .ref 54, .ref 55, .ref 56, .int 0, .int 0, .ref 57, .int 0, .ref 58, .int 0, .ref 59, .ref 60, .ref 61, .ref 62, .ref 63, .ref 64, .int 0, .int 0, .int 0, .int 0, .ref 65, .ref 66, .int 0, .ref 67, .int 0, .null, .int 0, .null]), .inl (1, (72408, .inl fun _ => 0)), .inl (0, (6034, .inl fun _ => 0)), .inl (1, (96, .inl fun _ => 0)), .inl (0, (40, .inl fun _ => 0)), .inl (0, (40, .inl fun _ => 0)), .inl (0, (40, .inl fun _ => 0)), .inl (0, (1920, .inl fun _ => 0)), .inl (0, (1920, .inl fun _ => 0)), .inl (0, (2000, .inl fun _ => 0)), .inl (0, (3, .inl fun _ => 0)), .inl (0, (48, .inl fun _ => 0)), .inl (0, (48, .inl fun _ => 0)), .inl (0, (96, .inl fun _ => 0)), .inl (0, (96, .inl fun _ => 0)), .inl (0, (96, .inl fun _ => 0)), .inl (0, (96, .inl fun _ => 0)), .inl (0, (40, .inl fun _ => 0)), .inl (3, (40, .inr (.inl fun _ => 0))), .inl (0, (1920, .inl fun _ => 0))] _
  refine go_s rfl rfl rfl (by first | trivial | decide) ?_
  refine go_s rfl rfl rfl (by first | trivial | decide) ?_
  refine go_s rfl rfl rfl (by first | trivial | decide) ?_
  refine go_s rfl rfl rfl (by first | trivial | decide) ?_
  change Go m_Mo_init 168 [some (.ref 48)] [] [t0, t1, t2, t3, t4, t5, t6, t7, t8, t9, t10, t11, t12, t13, t14, t15, t16, t17, t18, t19, t20, t21, t22, t23, t24, t25, t26, t27, t28, t29, t30, t31, t32, t33, t34, t35, t36, t37, t38, t39, t40, t41, t42, t43, t44, t45, t46, t47, .inr (8, [.ref 49, .ref 50, .ref 51, .int 0, .ref 52, .ref 53, .ref 54, .ref 55, .ref 56, .int 0, .int 0, .ref 57, .int 0, .ref 58, .int 0, .ref 59, .ref 60, .ref 61, .ref 62, .ref 63, .ref 64, .int 0, .int 0, .int 0, .int 0, .ref 65, .ref 66, .int 0, .ref 67, .int 0, .ref 68, .int 0, .null]), .inl (1, (72408, .inl fun _ => 0)), .inl (0, (6034, .inl fun _ => 0)), .inl (1, (96, .inl fun _ => 0)), .inl (0, (40, .inl fun _ => 0)), .inl (0, (40, .inl fun _ => 0)), .inl (0, (40, .inl fun _ => 0)), .inl (0, (1920, .inl fun _ => 0)), .inl (0, (1920, .inl fun _ => 0)), .inl (0, (2000, .inl fun _ => 0)), .inl (0, (3, .inl fun _ => 0)), .inl (0, (48, .inl fun _ => 0)), .inl (0, (48, .inl fun _ => 0)), .inl (0, (96, .inl fun _ => 0)), .inl (0, (96, .inl fun _ => 0)), .inl (0, (96, .inl fun _ => 0)), .inl (0, (96, .inl fun _ => 0)), .inl (0, (40, .inl fun _ => 0)), .inl (3, (40, .inr (.inl fun _ => 0))), .inl (0, (1920, .inl fun _ => 0)), .inl (1, (12, .inl fun _ => 0))] _
  refine go_s rfl rfl rfl (by first | trivial | decide) ?_
  refine go_s rfl rfl rfl (by first | trivial | decide) ?_
  refine go_s rfl rfl rfl (by first | trivial | decide) ?_
  refine go_s rfl rfl rfl (by first | trivial | decide) ?_
  change Go m_Mo_init 177 [some (.ref 48)] [] [t0, t1, t2, t3, t4, t5, t6, t7, t8, t9, t10, t11, t12, t13, t14, t15, t16, t17, t18, t19, t20, t21, t22, t23, t24, t25, t26, t27, t28, t29, t30, t31, t32, t33, t34, t35, t36, t37, t38, t39, t40, t41, t42, t43, t44, t45, t46, t47, .inr (8, [.ref 49, .ref 50, .ref 51, .int 0, .ref 52, .ref 53, .ref 54, .ref 55, .ref 56, .int 0, .int 0, .ref 57, .int 0, .ref 58, .int 0, .ref 59, .ref 60, .ref 61, .ref 62, .ref 63, .ref 64, .int 0, .int 0, .int 0, .int 0, .ref 65, .ref 66, .int 0, .ref 67, .int 0, .ref 68, .int 0, .ref 69]), .inl (1, (72408, .inl fun _ => 0)), .inl (0, (6034, .inl fun _ => 0)), .inl (1, (96, .inl fun _ => 0)), .inl (0, (40, .inl fun _ => 0)), .inl (0, (40, .inl fun _ => 0)), .inl (0, (40, .inl fun _ => 0)), .inl (0, (1920, .inl fun _ => 0)), .inl (0, (1920, .inl fun _ => 0)), .inl (0, (2000, .inl fun _ => 0)), .inl (0, (3, .inl fun _ => 0)), .inl (0, (48, .inl fun _ => 0)), .inl (0, (48, .inl fun _ => 0)), .inl (0, (96, .inl fun _ => 0)), .inl (0, (96, .inl fun _ => 0)), .inl (0, (96, .inl fun _ => 0)), .inl (0, (96, .inl fun _ => 0)), .inl (0, (40, .inl fun _ => 0)), .inl (3, (40, .inr (.inl fun _ => 0))), .inl (0, (1920, .inl fun _ => 0)), .inl (1, (12, .inl fun _ => 0)), .inl (0, (169, .inl fun _ => 0))] _
  exact go_r rfl rfl rfl trivial ⟨rfl, rfl⟩
theorem i_AC {t0 t1 t2 t3 t4 t5 t6 t7 t8 t9 t10 t11 t12 t13 t14 t15 t16 t17 t18 t19 t20 t21 t22 t23 t24 t25 t26 t27 t28 t29 t30 t31 t32 t33 t34 : am_C} : Do m_AC_init [.ref 35] [t0, t1, t2, t3, t4, t5, t6, t7, t8, t9, t10, t11, t12, t13, t14, t15, t16, t17, t18, t19, t20, t21, t22, t23, t24, t25, t26, t27, t28, t29, t30, t31, t32, t33, t34, .inr (5, [.int 0, .null, .int 0])] (fun r h' => r = none ∧ h' = [t0, t1, t2, t3, t4, t5, t6, t7, t8, t9, t10, t11, t12, t13, t14, t15, t16, t17, t18, t19, t20, t21, t22, t23, t24, t25, t26, t27, t28, t29, t30, t31, t32, t33, t34, .inr (5, [.int 0, .null, .int 0])]) := by
  refine go_s rfl rfl rfl (by first | trivial | decide) ?_
  refine go_s rfl rfl rfl (by first | trivial | decide) ?_
  exact go_r rfl rfl rfl trivial ⟨rfl, rfl⟩
theorem i_Ab {t0 t1 t2 t3 t4 t5 t6 t7 t8 t9 t10 t11 t12 t13 t14 t15 t16 t17 t18 t19 t20 t21 t22 t23 t24 t25 t26 t27 t28 t29 t30 t31 t32 t33 t34 : am_C} : Do m_Ab_init [.ref 35] [t0, t1, t2, t3, t4, t5, t6, t7, t8, t9, t10, t11, t12, t13, t14, t15, t16, t17, t18, t19, t20, t21, t22, t23, t24, t25, t26, t27, t28, t29, t30, t31, t32, t33, t34, .inr (5, [.int 0, .null, .int 0])] (fun r h' => r = none ∧ h' = [t0, t1, t2, t3, t4, t5, t6, t7, t8, t9, t10, t11, t12, t13, t14, t15, t16, t17, t18, t19, t20, t21, t22, t23, t24, t25, t26, t27, t28, t29, t30, t31, t32, t33, t34, .inr (5, [.int 0, .null, .int 0])]) := by
  refine go_s rfl rfl rfl (by first | trivial | decide) ?_
  refine go_c rfl rfl rfl i_AC ?_
  rintro r h0 ⟨rfl, rfl⟩
  refine go_s rfl rfl rfl (by first | trivial | decide) ?_
  refine go_s rfl rfl rfl (by first | trivial | decide) ?_
  refine go_s rfl rfl rfl (by first | trivial | decide) ?_
  exact go_r rfl rfl rfl trivial ⟨rfl, rfl⟩
theorem i_AL {t0 t1 t2 t3 t4 t5 t6 t7 t8 t9 t10 t11 t12 t13 t14 t15 t16 t17 t18 t19 t20 t21 t22 t23 t24 t25 t26 t27 t28 t29 t30 t31 t32 t33 t34 : am_C} : Do m_AL_init [.ref 35] [t0, t1, t2, t3, t4, t5, t6, t7, t8, t9, t10, t11, t12, t13, t14, t15, t16, t17, t18, t19, t20, t21, t22, t23, t24, t25, t26, t27, t28, t29, t30, t31, t32, t33, t34, .inr (5, [.int 0, .null, .int 0])] (fun r h' => r = none ∧ h' = [t0, t1, t2, t3, t4, t5, t6, t7, t8, t9, t10, t11, t12, t13, t14, t15, t16, t17, t18, t19, t20, t21, t22, t23, t24, t25, t26, t27, t28, t29, t30, t31, t32, t33, t34, .inr (5, [.int 0, .ref 0, .int 0])]) := by
  refine go_s rfl rfl rfl (by first | trivial | decide) ?_
  refine go_c rfl rfl rfl i_Ab ?_
  rintro r h0 ⟨rfl, rfl⟩
  refine go_s rfl rfl rfl (by first | trivial | decide) ?_
  refine go_s rfl rfl rfl (by first | trivial | decide) ?_
  refine go_s rfl rfl rfl (by first | trivial | decide) ?_
  exact go_r rfl rfl rfl trivial ⟨rfl, rfl⟩
theorem i_Qu {t0 t1 t2 t3 t4 t5 t6 t7 t8 t9 t10 t11 t12 t13 t14 t15 t16 t17 t18 t19 t20 t21 t22 t23 t24 t25 t26 t27 t28 t29 t30 t31 t32 t33 : am_C} : Do m_Qu_init [.ref 34, .ref 7] [t0, t1, t2, t3, t4, t5, t6, t7, t8, t9, t10, t11, t12, t13, t14, t15, t16, t17, t18, t19, t20, t21, t22, t23, t24, t25, t26, t27, t28, t29, t30, t31, t32, t33, .inr (4, [.null, .null, .null, .int 0, .null, .null, .int 0, .int 0, .int 0])] (fun r h' => r = none ∧ h' = [t0, t1, t2, t3, t4, t5, t6, t7, t8, t9, t10, t11, t12, t13, t14, t15, t16, t17, t18, t19, t20, t21, t22, t23, t24, t25, t26, t27, t28, t29, t30, t31, t32, t33, .inr (4, [.ref 7, .ref 35, .ref 36, .int 0, .ref 37, .ref 38, .int 0, .int 0, .int 0]), .inr (5, [.int 0, .ref 0, .int 0]), .inl (3, (48, .inr (.inl fun _ => 0))), .inl (3, (48, .inr (.inl fun _ => 0))), .inl (3, (48, .inr (.inl fun _ => 0)))]) := by
  refine go_s rfl rfl rfl (by first | trivial | decide) ?_
  refine go_s rfl rfl rfl (by first | trivial | decide) ?_
  refine go_s rfl rfl rfl (by first | trivial | decide) ?_
  refine go_s rfl rfl rfl (by first | trivial | decide) ?_
  refine go_s rfl rfl rfl (by first | trivial | decide) ?_
  refine go_c rfl rfl rfl i_AL ?_
  rintro r h0 ⟨rfl, rfl⟩
  refine go_s rfl rfl rfl (by first | trivial | decide) ?_
  change Go m_Qu_init 15 [some (.ref 34), some (.ref 7)] [] [t0, t1, t2, t3, t4, t5, t6, t7, t8, t9, t10, t11, t12, t13, t14, t15, t16, t17, t18, t19, t20, t21, t22, t23, t24, t25, t26, t27, t28, t29, t30, t31, t32, t33, .inr (4, [.null, .ref 35, .null, .int 0, .null, .null, .int 0, .int 0, .int 0]), .inr (5, [.int 0, .ref 0, .int 0])] _
  refine go_s rfl rfl rfl (by first | trivial | decide) ?_
  refine go_s rfl rfl rfl (by first | trivial | decide) ?_
  refine go_s rfl rfl rfl (by first | trivial | decide) ?_
  refine go_s rfl rfl rfl (by first | trivial | decide) ?_
  change Go m_Qu_init 23 [some (.ref 34), some (.ref 7)] [] [t0, t1, t2, t3, t4, t5, t6, t7, t8, t9, t10, t11, t12, t13, t14, t15, t16, t17, t18, t19, t20, t21, t22, t23, t24, t25, t26, t27, t28, t29, t30, t31, t32, t33, .inr (4, [.null, .ref 35, .ref 36, .int 0, .null, .null, .int 0, .int 0, .int 0]), .inr (5, [.int 0, .ref 0, .int 0]), .inl (3, (48, .inr (.inl fun _ => 0)))] _
  refine go_s rfl rfl rfl (by first | trivial | decide) ?_
  refine go_s rfl rfl rfl (by first | trivial | decide) ?_
  refine go_s rfl rfl rfl (by first | trivial | decide) ?_
  refine go_s rfl rfl rfl (by first | trivial | decide) ?_
  change Go m_Qu_init 31 [some (.ref 34), some (.ref 7)] [] [t0, t1, t2, t3, t4, t5, t6, t7, t8, t9, t10, t11, t12, t13, t14, t15, t16, t17, t18, t19, t20, t21, t22, t23, t24, t25, t26, t27, t28, t29, t30, t31, t32, t33, .inr (4, [.null, .ref 35, .ref 36, .int 0, .ref 37, .null, .int 0, .int 0, .int 0]), .inr (5, [.int 0, .ref 0, .int 0]), .inl (3, (48, .inr (.inl fun _ => 0))), .inl (3, (48, .inr (.inl fun _ => 0)))] _
  refine go_s rfl rfl rfl (by first | trivial | decide) ?_
  refine go_s rfl rfl rfl (by first | trivial | decide) ?_
  refine go_s rfl rfl rfl (by first | trivial | decide) ?_
  refine go_s rfl rfl rfl (by first | trivial | decide) ?_
  change Go m_Qu_init 39 [some (.ref 34), some (.ref 7)] [] [t0, t1, t2, t3, t4, t5, t6, t7, t8, t9, t10, t11, t12, t13, t14, t15, t16, t17, t18, t19, t20, t21, t22, t23, t24, t25, t26, t27, t28, t29, t30, t31, t32, t33, .inr (4, [.null, .ref 35, .ref 36, .int 0, .ref 37, .ref 38, .int 0, .int 0, .int 0]), .inr (5, [.int 0, .ref 0, .int 0]), .inl (3, (48, .inr (.inl fun _ => 0))), .inl (3, (48, .inr (.inl fun _ => 0))), .inl (3, (48, .inr (.inl fun _ => 0)))] _
  refine go_s rfl rfl rfl (by first | trivial | decide) ?_
  refine go_s rfl rfl rfl (by first | trivial | decide) ?_
  refine go_s rfl rfl rfl (by first | trivial | decide) ?_
  exact go_r rfl rfl rfl trivial ⟨rfl, rfl⟩
