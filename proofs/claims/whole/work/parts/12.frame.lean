/-! ===== calls, and the theorem of all frames ===== -/
theorem am_call3 {kc ml : Nat → Nat} {a c j : Nat} {st as rest : List Value} {h : List am_C} (hc : am_call kc ml a 3 c st h = some (j, as, rest)) : j = a ∧ st = as.reverse ++ rest ∧ as.length = c ∧ am_room rest = true ∧ am_fits as (ml a) = true := by
  simp only [am_call] at hc
  split at hc
  · rename_i as0 st0 htk
    obtain ⟨l, h1, h2, h3⟩ := am_tk_eq _ _ _ _ _ htk
    split at hc
    · rename_i hb
      cases hc
      simp only [Bool.and_eq_true] at hb
      rw [List.append_nil] at h3
      subst h3
      exact ⟨rfl, by rw [List.reverse_reverse]; exact h1, by rw [List.length_reverse]; exact h2, hb.1, hb.2⟩
    · cases hc
  · cases hc
theorem am_call0 {kc ml : Nat → Nat} {a c j : Nat} {st as rest : List Value} {h : List am_C} (hc : am_call kc ml a 0 c st h = some (j, as, rest)) : ∃ (as0 : List Value) (r : Nat) (fs : List Value), j = a ∧ as = .ref r :: as0 ∧ st = as0.reverse ++ .ref r :: rest ∧ as0.length = c ∧ am_get h r = some (.inr (kc a, fs)) ∧ 6 ≤ r ∧ am_room rest = true ∧ am_fits as (ml a) = true := by
  simp only [am_call] at hc
  split at hc
  · rename_i as0 st0 htk
    obtain ⟨l, h1, h2, h3⟩ := am_tk_eq _ _ _ _ _ htk
    rw [List.append_nil] at h3
    subst h3
    split at hc
    · rename_i r st2
      split at hc
      · rename_i ci fs hget
        split at hc
        · rename_i hb
          cases hc
          simp only [Bool.and_eq_true] at hb
          have e := Nat.eq_of_beq_eq_true hb.1.1.1
          subst e
          exact ⟨l.reverse, r, fs, rfl, rfl, by rw [List.reverse_reverse]; exact h1, by rw [List.length_reverse]; exact h2, hget, Nat.le_of_ble_eq_true hb.1.1.2, hb.1.2, hb.2⟩
        · cases hc
      · cases hc
    · cases hc
  · cases hc
theorem am_call12 {kc ml : Nat → Nat} {a b c j : Nat} {st as rest : List Value} {h : List am_C} (hb12 : b = 1 ∨ b = 2) (hc : am_call kc ml a b c st h = some (j, as, rest)) : ∃ (as0 : List Value) (r : Nat), j = a ∧ as = .ref r :: as0 ∧ st = as0.reverse ++ .ref r :: rest ∧ as0.length = c ∧ am_room rest = true ∧ am_fits as (ml a) = true := by
  have key : ∀ (o : Option (List Value × List Value)), am_tk c st [] = o → (match o with
      | some (as, st') => (match st' with
        | .ref r :: st2 => (match am_room st2 && am_fits (.ref r :: as) (ml a) with
          | true => some (a, Value.ref r :: as, st2)
          | false => none)
        | _ => none)
      | none => none) = some (j, as, rest) → ∃ (as0 : List Value) (r : Nat), j = a ∧ as = .ref r :: as0 ∧ st = as0.reverse ++ .ref r :: rest ∧ as0.length = c ∧ am_room rest = true ∧ am_fits as (ml a) = true := by
    intro o ho hc
    split at hc
    · rename_i as0 st0
      obtain ⟨l, h1, h2, h3⟩ := am_tk_eq _ _ _ _ _ ho
      rw [List.append_nil] at h3
      subst h3
      split at hc
      · rename_i r st2
        split at hc
        · rename_i hb
          cases hc
          simp only [Bool.and_eq_true] at hb
          exact ⟨l.reverse, r, rfl, rfl, by rw [List.reverse_reverse]; exact h1, by rw [List.length_reverse]; exact h2, hb.1, hb.2⟩
        · cases hc
      · cases hc
    · cases hc
  rcases hb12 with rfl | rfl
  · exact key _ rfl hc
  · exact key _ rfl hc
theorem am_kdV {x b : Nat} (h : am_kd (.invokevirtual x) b = 1) : b = 0 := by
  simp only [am_kd] at h
  split at h
  · rfl
  · cases h
  · cases h
theorem am_kdI {x b : Nat} (h : am_kd (.invokespecial x) b = 1) : b = 1 ∨ b = 2 := by
  simp only [am_kd] at h
  split at h
  · exact Or.inl rfl
  · exact Or.inr rfl
  · cases h
  · cases h
theorem am_kdS {x b : Nat} (h : am_kd (.invokestatic x) b = 1) : b = 3 := by
  simp only [am_kd] at h
  split at h
  · rfl
  · cases h
  · cases h
  · cases h
  · cases h
section CALLS
variable {p : Program} {l : Launch} {e : Env} {R : Room} {s : State} {mm : MethodId} {args : Array Value} {below : List Frame} {meth : Method} {c : Code} {H : Heap} {locs : List Loc} {cells slots : Nat} {Q : State → Prop}
variable {m pc : Nat} {nx a b cc : Nat} {k : Int32} {lv : Int64} {ls : List (Option Value)} {st : List Value} {h : List am_C} {D : va_G} {τ : Nat → ClassId} {A : Nat → Prop} {L : Nat} {xs : Nat → Int32} {n0 : Nat} {ρ0 ρ : Nat → Nat} {lsC : Array Slot}
theorem am_callx {A0 A1 : Nat → Prop} {mc ms : Nat} {free : Addr → Prop} {st0 rest : List Value} {Qa : State → Outcome → State → Prop} (hr : va_Run p l e R s mm args below meth c H locs cells slots mc ms (F0 mm pc lsC st0) rest Qa free) (hS : va_S A0 s.heap H locs)
    (hQF : ∀ st₀ oc t, Qa st₀ oc t → va_F A1 st₀ t) (hA : ∀ q, A1 q → A0 q) (hf : ∀ q, free q → A0 q)
    (kk : ∀ (v : Option Value) (st₀ t : State) (locs1 : List Loc), st₀.heap = H → Qa st₀ (.returned v) t → va_S A0 s.heap t.heap locs1 → W p l e R s mm args below meth c t.heap locs1 (cells + mc) (slots + ms) Q (F0 mm (pc + 3) lsC (v.toList ++ rest))) : W p l e R s mm args below meth c H locs cells slots Q (F0 mm pc lsC st0) := by
  intro T hT X
  obtain ⟨v, st₀, t, T', L, h0, X', hL, e1, e2, hq, st⟩ := hr T hT X
  obtain ⟨hz, hk⟩ := hQF _ _ _ hq
  rw [h0] at hz hk
  obtain ⟨t2, a1, b1⟩ := kk v st₀ t (locs ++ L) h0 hq
    ⟨Nat.le_trans hS.1 hz, fun q h1 h2 => by rw [hk q (Nat.lt_of_lt_of_le h1 hS.1) (fun z => h2 (hA q z))]; exact hS.2.1 q h1 h2, fun q hq => by
      rcases List.mem_append.mp hq with h | h
      · exact hS.2.2 q h
      · exact hf _ (hL q h)⟩ T' e1 X'
  exact ⟨t2, st t2 a1, b1⟩
theorem am_gin {ws : List Cond} (h : ∀ w ∈ ws, w ∈ am_T) : GoodIn am_T ws := fun w hw => ⟨h w hw, am_good w (h w hw)⟩
set_option maxHeartbeats 4000000 in
theorem am_callstep {n j : Nat} {i : Jvm.ClassFile.Instr} {as rest : List Value} {r1 : Option Value} {h1 : List am_C} (FR : am_FRAME n) (F : am_fix p R s mm args meth c m) (hA : ∀ q, s.heap.size ≤ q → A q) (hX : am_ext ρ0 L xs A s s.heap) (hK : va_K D am_cl (am_tys τ) s) (h6 : 6 ≤ n0)
    (hok : am_okb m pc (i, nx, a, b, cc, k, lv) = true) (hkd : am_kd i b = 1) (hcl : am_call am_kc am_ml a b cc st h = some (j, as, rest)) (hr : am_run n j 0 (am_ent (am_ml j) as) [] h = some (r1, h1))
    (I : am_inv D τ A s L xs n0 ρ0 (am_ml m) ρ ls st h H locs lsC) (hcel : cells + (h1.length - h.length) ≤ R.cells) (hslo : slots + (am_sz h1 - am_sz h) ≤ R.slots)
    (kk : ∀ ρ' H' locs', am_inv D τ A s L xs n0 ρ0 (am_ml m) ρ' ls (r1.toList ++ rest) h1 H' locs' lsC → W p l e R s mm args below meth c H' locs' (cells + (h1.length - h.length)) (slots + (am_sz h1 - am_sz h)) Q (F0 mm nx lsC ((r1.toList ++ rest).map (am_t ρ')))) :
    W p l e R s mm args below meth c H locs cells slots Q (F0 mm pc lsC (st.map (am_t ρ))) := by
  obtain ⟨hx, hb, hml, hown, hts, hfr, hlo, hin⟩ := F
  obtain ⟨hP, hD, hS, hl, hst, hh, hdm, hn0, hρ⟩ := id I
  have hle := am_run_le n hr
  have hFc : ∀ q, va_A (am_w ρ τ h) H.size q → A q := by
    intro q hq
    rcases hq with ⟨k1, e1, h2⟩ | h2
    · exact hD.2 k1 _ h2
    · exact hA q (Nat.le_trans hS.1 h2)
  have ext : am_ext ρ L xs (va_A (am_w ρ τ h) H.size) s H := ((hX.rho (fun k hk => hρ k (by omega))).kp hS.1 hS.2.1).nw hFc
  have blind : ∀ (av : List Value), FrameBlind (va_Pc av (am_PB D τ L xs ρ h H.size)) := by
    intro av a1 U g mk q
    obtain ⟨q0, q1, q2, q3, q4, q5⟩ := q
    exact ⟨q0, q1, q2, va_K.moved (u := U) (U := U.calling g mk a1) (Vm.Alike.refl U.vm) q3, q4, am_ext.mv (u := U) (U := U.calling g mk a1) (Vm.Alike.refl U.vm) (am_nw_same rfl) q5⟩
  have pre : ∀ (av : List Value) (U : State), U.heap = H → s.WarmedH U.vm → va_Pc av (am_PB D τ L xs ρ h H.size) av.toArray U := by
    intro av U hU hW
    refine ⟨rfl, by rw [hU], by rw [hU]; exact hP, va_K.moved hW.alike hK, hD.weaken (fun _ _ _ _ => trivial), ?_⟩
    rw [hU]
    exact ext.mv hW.alike (am_nw_warm hW)
  have cont : ∀ {aA : Array Value}, nx = pc + 3 → am_ss h.length rest → va_Run p l e R s mm args below meth c H locs cells slots (h1.length - h.length) (am_sz h1 - am_sz h) (F0 mm pc lsC (st.map (am_t ρ))) (rest.map (am_t ρ)) (am_QB D τ L xs ρ h.length (va_A (am_w ρ τ h) H.size) r1 h1 aA) (va_A (am_w ρ τ h) H.size) → W p l e R s mm args below meth c H locs cells slots Q (F0 mm pc lsC (st.map (am_t ρ))) := by
    intro aA hnx hrs hrun
    refine am_callx hrun hS (fun _ _ _ q => q.2) hFc hFc (fun v st₀ t locs1 h0 hq hS1 => ?_)
    obtain ⟨⟨ρ', q1, q2, q3, q4, q5, q6, q7⟩, -⟩ := hq
    cases q5
    have e1 := am_ts_ext q1 rest hrs
    have := kk ρ' t.heap locs1 ⟨q6, q7.weaken (fun _ q _ z => hFc q.1 z), hS1, hl.ext hle.1 q1, fun v hv => (List.mem_append.mp hv).elim (q2 v) (hrs.le hle.1 v), q3, q4, Nat.le_trans hn0 hle.1, fun z hz => by rw [q1 z (Nat.lt_of_lt_of_le hz hn0)]; exact hρ z hz⟩
    rw [hnx, List.map_append, e1] at this
    have e2 : r1.toList.map (am_t ρ') = (r1.map (am_t ρ')).toList := by cases r1 <;> rfl
    rw [e2] at this
    exact this
  have hmem : ∀ w ∈ (Cond.code (am_y j) (am_bc j) (am_ml j) (am_rt j) :: am_T), am_okJ j → w ∈ am_T := fun w hw hJ => (List.mem_cons.mp hw).elim (fun q => q ▸ hJ.1) id
  cases i with
  | invokestatic x =>
    have b3 := am_kdS hkd
    subst b3
    simp only [am_okb, am_okb1, am_call_ok, Bool.and_eq_true, decide_eq_true_eq] at hok
    simp only [am_lni] at hok
    obtain ⟨⟨hd, hnx⟩, hq, ⟨w1, w2⟩, w3⟩ := hok
    obtain ⟨rfl, c1, c2, c3, c4⟩ := am_call3 hcl
    obtain ⟨hJ, k1, k2⟩ := am_ML_ok _ hq
    subst c1
    have hsr : am_ss h.length rest := fun v hv => hst v (List.mem_append_right _ hv)
    have hsa : am_ss h.length as := fun v hv => hst v (List.mem_append_left _ (List.mem_reverse.mpr hv))
    have hM := am_met FR hJ hr c4 l (D := D) (τ := τ) (ρ := ρ) hsa hh hdm H.size
    refine cont (aA := (as.map (am_t ρ)).toArray) hnx hsr ?_
    refine va_runS (As := as.map (am_t ρ)) ⟨hx, hb, hml, hown, hts⟩ hM (va_cwS (am_nc j) hts (am_gin ?_) rfl rfl rfl hJ.2.2.2.2 ⟨by show am_D j + 1 ≤ R.frames; omega, by show 8 + (am_ml j + 11) + am_Lo j ≤ R.locals; omega⟩) ⟨blind _, pre _⟩ rfl (by rw [List.length_map, c2, w1]) hl.1 (by simp [List.map_reverse]) (lv_room (am_room_le c3)) hd ⟨hcel, hslo⟩
    intro w hw
    simp only [va_wsS, List.cons_append, List.nil_append] at hw
    rcases List.mem_cons.mp hw with rfl | hw
    · exact k1
    rcases List.mem_cons.mp hw with rfl | hw
    · exact k2
    rcases List.mem_cons.mp hw with rfl | hw
    · exact hJ.2.1
    · exact hmem w hw hJ
  | invokevirtual x =>
    have b0 := am_kdV hkd
    subst b0
    simp only [am_okb, am_okb1, am_call_ok, Bool.and_eq_true, decide_eq_true_eq] at hok
    simp only [am_lni] at hok
    obtain ⟨⟨hd, hnx⟩, hq, ⟨w1, w2⟩, w3⟩ := hok
    obtain ⟨as0, r, fs, rfl, rfl, c1, c2, hget, h6r, c3, c4⟩ := am_call0 hcl
    obtain ⟨hJ, k1, k2, k3, T, N, k4⟩ := am_ML_ok _ hq
    subst c1
    have hsr : am_ss h.length rest := fun v hv => hst v (List.mem_append_right _ (List.mem_cons_of_mem _ hv))
    have hsa : am_ss h.length (.ref r :: as0) := am_ss.cn (hst _ (List.mem_append_right _ List.mem_cons_self)) (fun v hv => hst v (List.mem_append_left _ (List.mem_reverse.mpr hv)))
    have hM := am_met FR hJ hr c4 l (D := D) (τ := τ) (ρ := ρ) hsa hh hdm H.size
    refine cont (aA := (Value.ref (ρ r) :: as0.map (am_t ρ)).toArray) hnx hsr ?_
    refine va_runV (As := as0.map (am_t ρ)) (b := ρ r) (C := (am_y j).cls) ⟨hx, hb, hml, hown, hts⟩ hM (cwV (am_nc j) hts (am_gin ?_) rfl rfl rfl ⟨rfl, hJ.2.2.2.2⟩ ⟨by show am_D j + 1 ≤ R.frames; omega, by show 8 + (am_ml j + 11) + am_Lo j ≤ R.locals; omega⟩) ⟨blind _, va_recv hK hP k4 (am_w_get h6r hget), pre _⟩ rfl (by rw [List.length_map, c2, w1]) hl.1 (by simp [List.map_reverse, am_t]) (lv_room (am_room_le c3)) hd ⟨hcel, hslo⟩
    intro w hw
    simp only [wsV, List.cons_append, List.nil_append] at hw
    rcases List.mem_cons.mp hw with rfl | hw
    · exact k1
    rcases List.mem_cons.mp hw with rfl | hw
    · exact k2
    rcases List.mem_cons.mp hw with rfl | hw
    · exact k3
    rcases List.mem_cons.mp hw with rfl | hw
    · exact hJ.2.1
    · exact hmem w hw hJ
  | invokespecial x =>
    have b12 := am_kdI hkd
    obtain ⟨as0, r, rfl, rfl, c1, c2, c3, c4⟩ := am_call12 b12 hcl
    subst c1
    have hsr : am_ss h.length rest := fun v hv => hst v (List.mem_append_right _ (List.mem_cons_of_mem _ hv))
    have hsa : am_ss h.length (.ref r :: as0) := am_ss.cn (hst _ (List.mem_append_right _ List.mem_cons_self)) (fun v hv => hst v (List.mem_append_left _ (List.mem_reverse.mpr hv)))
    rcases b12 with rfl | rfl
    · simp only [am_okb, am_okb1, am_call_ok, Bool.and_eq_true, decide_eq_true_eq] at hok
      simp only [am_lni] at hok
      obtain ⟨⟨hd, hnx⟩, hq, ⟨w1, w2⟩, w3⟩ := hok
      obtain ⟨hJ, k1, k2, k3, k4⟩ := am_ML_ok _ hq
      have hM := am_met FR hJ hr c4 l (D := D) (τ := τ) (ρ := ρ) hsa hh hdm H.size
      refine cont (aA := (Value.ref (ρ r) :: as0.map (am_t ρ)).toArray) hnx hsr ?_
      dsimp only at k4
      rw [k4] at hM
      refine va_runI (As := as0.map (am_t ρ)) (b := ρ r) ⟨hx, hb, hml, hown, hts⟩ hM (cwI (am_nc j) hts (am_gin ?_) rfl rfl rfl (hts _ hJ.2.1) (hts _ k1) (hts _ k2) k3 hJ.2.2.2.2 ⟨by show am_D j + 1 ≤ R.frames; omega, by show 8 + (am_ml j + 11) + am_Lo j ≤ R.locals; omega⟩) ⟨blind _, pre _⟩ rfl (by rw [List.length_map, c2, w1]) hl.1 (by simp [List.map_reverse, am_t]) (lv_room (am_room_le c3)) hd ⟨hcel, hslo⟩
      intro w hw
      rw [← k4] at hw
      exact hmem w hw hJ
    · simp only [am_okb, am_okb1, am_call_ok, Bool.and_eq_true, decide_eq_true_eq] at hok
      simp only [am_lni] at hok
      obtain ⟨⟨hd, hnx⟩, hq, ⟨w1, w2⟩, w3⟩ := hok
      obtain ⟨hJ, k1, k2, k3, k4⟩ := am_ML_ok _ hq
      have hM := am_met FR hJ hr c4 l (D := D) (τ := τ) (ρ := ρ) hsa hh hdm H.size
      refine cont (aA := (Value.ref (ρ r) :: as0.map (am_t ρ)).toArray) hnx hsr ?_
      dsimp only at k4
      rw [k4] at hM
      refine va_runIN (As := as0.map (am_t ρ)) (b := ρ r) ⟨hx, hb, hml, hown, hts⟩ hM ⟨va_cnB (am_nc j) hts (am_gin ?_) rfl rfl rfl (hX.2.2.2.2.2.1 _ k1) (hts _ hJ.2.1) hJ.2.2.2.2 ⟨by show am_D j + 1 ≤ R.frames; omega, by show 8 + (am_ml j + 11) + am_Lo j ≤ R.locals; omega⟩, k3, hts _ k2⟩ ⟨blind _, pre _⟩ rfl (by rw [List.length_map, c2, w1]) hl.1 (by simp [List.map_reverse, am_t]) (lv_room (am_room_le c3)) hd ⟨hcel, hslo⟩
      intro w hw
      rw [← k4] at hw
      exact hmem w hw hJ
  | ireturn => cases hkd
  | lreturn => cases hkd
  | areturn => cases hkd
  | return_ => cases hkd
  | _ => cases hkd
end CALLS
theorem am_frame : ∀ n, am_FRAME n := by
  intro n
  induction n with
  | zero =>
    intro p l e R s mm args below meth c Q m D τ A L xs n0 ρ0 C1 S1 r h' F hA hX hK h6 hC hS1 hend pc ls st h ρ H locs lsC cells slots hrun I hc hs
    simp [am_run] at hrun
  | succ n ih =>
    intro p l e R s mm args below meth c Q m D τ A L xs n0 ρ0 C1 S1 r h' F hA hX hK h6 hC hS1 hend pc ls st h ρ H locs lsC cells slots hrun I hc hs
    rw [am_run] at hrun
    cases he : am_E m pc with
    | none => rw [he] at hrun; cases hrun
    | some en =>
      obtain ⟨i, nx, a, b, cc, k, lv⟩ := en
      rw [he] at hrun
      have hok := am_E_ok he
      try dsimp only at hrun
      match hk : am_kd i b with
      | 0 =>
        rw [hk] at hrun
        try dsimp only at hrun
        cases hst : am_s am_df am_ft i nx a b k lv ls st h with
        | none => rw [hst] at hrun; cases hrun
        | some o =>
          obtain ⟨g, pc', ls', st', h1⟩ := o
          rw [hst] at hrun
          try dsimp only at hrun
          by_cases hg : g
          · rw [if_pos hg] at hrun
            have l1 := am_s_le hst
            have l2 := am_run_le n hrun
            obtain ⟨l11, l12⟩ := l1
            obtain ⟨l21, l22⟩ := l2
            exact am_sim F hA hX hK h6 i hok hk hst hg I (by omega) (by omega) (fun ρ' H' locs' lsC' I' => ih F hA hX hK h6 hC hS1 hend hrun I' (by omega) (by omega))
          · rw [if_neg hg] at hrun; cases hrun
      | 1 =>
        rw [hk] at hrun
        try dsimp only at hrun
        cases hst : am_call am_kc am_ml a b cc st h with
        | none => rw [hst] at hrun; cases hrun
        | some o =>
          obtain ⟨j, as, rest⟩ := o
          rw [hst] at hrun
          try dsimp only at hrun
          cases hr : am_run n j 0 (am_ent (am_ml j) as) [] h with
          | none => rw [hr] at hrun; cases hrun
          | some o =>
            obtain ⟨r1, h1⟩ := o
            rw [hr] at hrun
            try dsimp only at hrun
            obtain ⟨l11, l12⟩ := am_run_le n hr
            obtain ⟨l21, l22⟩ := am_run_le n hrun
            exact am_callstep ih F hA hX hK h6 hok hk hst hr I (by omega) (by omega) (fun ρ' H' locs' I' => ih F hA hX hK h6 hC hS1 hend hrun I' (by omega) (by omega))
      | 2 =>
        rw [hk] at hrun
        try dsimp only at hrun
        cases hst : am_ret i a st with
        | none => rw [hst] at hrun; cases hrun
        | some o =>
          obtain ⟨g, r1⟩ := o
          rw [hst] at hrun
          try dsimp only at hrun
          by_cases hg : g
          · rw [if_pos hg] at hrun
            cases hrun
            have e1 := am_ret_st hst
            subst e1
            obtain ⟨hP, hD, hS, hl, hss, hh, hdm, hn0, hρ⟩ := I
            rw [show C1 = cells by omega, show S1 = slots by omega] at hend
            exact hend ⟨hP, hD, hS, ⟨hl.1, hl.2.1, fun i v hv => by simp [am_get] at hv⟩, hss, hh, hdm, hn0, hρ⟩ hok hk hst hg
          · rw [if_neg hg] at hrun; cases hrun
      | k + 3 => rw [hk] at hrun; cases hrun
