def Ga_swap_39 (n : Nat) (a0 : Int32) (a1 : Int32) (I : zI) : Option (zI) :=
  (Ga_memoryAt_39 n a0 I).bind fun x116 =>
  (Ga_memoryAt_39 n a1 I).bind fun x117 =>
  (
    if x116 = (-6) then
      some I
    else
      (Ga_putWith_39 x116 a1 I).bind fun I119 =>
      some I119 : Option (zI)).bind fun I120 =>
  if x117 = (-6) then
    some I120
  else
    (Ga_putWith_39 x117 a0 I120).bind fun I121 =>
    some I121
theorem s_Ga_swap_39 {n : Nat} {a0 : Int32} {a1 : Int32} {I : zI} {I' : zI} (hf : Ga_swap_39 n a0 a1 I = some I') (d : Nat) (hd : 2 ≤ d) : zCall d 35 [.ref 39, .int a0, .int a1] (zHp I) (none) (zHp I') := by
  obtain ⟨d, rfl⟩ : ∃ e, d = e + 1 := ⟨d - 1, by omega⟩
  rw [Ga_swap_39] at hf
  show zEv _ _ _ (0, [some (.ref 39), some (.int a0), some (.int a1), none, none], []) _ _ _
  obtain ⟨x116, hx, hf⟩ := Option.bind_eq_some_iff.mp hf
  refine zEv_call 3 (N := 22) (vs := [.ref 39, .int a0]) (v1 := some (.int x116)) (h1 := zHp I) (L := [some (.ref 39), some (.int a0), some (.int a1), none, none]) (rest := []) (pc := 5) (fun n => rfl) (s_Ga_memoryAt_39 hx d (by omega)) rfl rfl ?_
  show zEv _ _ _ (5, [some (.ref 39), some (.int a0), some (.int a1), none, none], [.int x116]) _ _ _
  obtain ⟨x117, hx, hf⟩ := Option.bind_eq_some_iff.mp hf
  refine zEv_call 4 (N := 22) (vs := [.ref 39, .int a1]) (v1 := some (.int x117)) (h1 := zHp I) (L := [some (.ref 39), some (.int a0), some (.int a1), some (.int x116), none]) (rest := []) (pc := 11) (fun n => rfl) (s_Ga_memoryAt_39 hx d (by omega)) rfl rfl ?_
  show zEv _ _ _ (11, [some (.ref 39), some (.int a0), some (.int a1), some (.int x116), none], [.int x117]) _ _ _
  obtain ⟨I120, hm_m118, hf⟩ := Option.bind_eq_some_iff.mp hf
  have hJ_m118 : zEv none (d + 1) 35 (25, [some (.ref 39), some (.int a0), none, none, some (.int x117)], []) (zHp I120) (none) (zHp I') := by
    refine zEv_if 3 (c := x117 = (-6)) (f1 := (39, [some (.ref 39), some (.int a0), none, none, some (.int x117)], [])) (f2 := (32, [some (.ref 39), some (.int a0), none, none, some (.int x117)], [])) (h1 := zHp I120) (fun n => rfl) (fun hc => ?_) (fun hc => ?_)
    · rw [if_pos hc] at hf
      cases hf
      exact zEv_ret 1 (fun n => rfl)
    · rw [if_neg hc] at hf
      obtain ⟨I121, hx, hf⟩ := Option.bind_eq_some_iff.mp hf
      refine zEv_call 4 (N := 25) (vs := [.ref 39, .int x117, .int a0]) (v1 := none) (h1 := zHp I121) (L := [some (.ref 39), some (.int a0), none, none, some (.int x117)]) (rest := []) (pc := 39) (fun n => rfl) (s_Ga_putWith_39 hx d (by omega)) rfl rfl ?_
      show zEv _ _ _ (39, [some (.ref 39), some (.int a0), none, none, some (.int x117)], []) _ _ _
      cases hf
      exact zEv_ret 1 (fun n => rfl)
  clear hf
  refine zEv_if 4 (c := x116 = (-6)) (f1 := (25, [some (.ref 39), some (.int a0), some (.int a1), some (.int x116), some (.int x117)], [])) (f2 := (19, [some (.ref 39), some (.int a0), some (.int a1), some (.int x116), some (.int x117)], [])) (h1 := zHp I) (fun n => rfl) (fun hc => ?_) (fun hc => ?_)
  · rw [if_pos hc] at hm_m118
    obtain rfl := Option.some.inj hm_m118
    exact zEv_weak (L := [some (.ref 39), some (.int a0), none, none, some (.int x117)]) (by exact ⟨rfl, ⟨rfl, ⟨rfl, ⟨rfl, ⟨rfl, trivial⟩⟩⟩⟩⟩) hJ_m118
  · rw [if_neg hc] at hm_m118
    obtain ⟨I119, hx, hm_m118⟩ := Option.bind_eq_some_iff.mp hm_m118
    refine zEv_call 4 (N := 25) (vs := [.ref 39, .int x116, .int a1]) (v1 := none) (h1 := zHp I119) (L := [some (.ref 39), some (.int a0), some (.int a1), some (.int x116), some (.int x117)]) (rest := []) (pc := 25) (fun n => rfl) (s_Ga_putWith_39 hx d (by omega)) rfl rfl ?_
    show zEv _ _ _ (25, [some (.ref 39), some (.int a0), some (.int a1), some (.int x116), some (.int x117)], []) _ _ _
    obtain rfl := Option.some.inj hm_m118
    exact zEv_weak (L := [some (.ref 39), some (.int a0), none, none, some (.int x117)]) (by exact ⟨rfl, ⟨rfl, ⟨rfl, ⟨rfl, ⟨rfl, trivial⟩⟩⟩⟩⟩) hJ_m118
def Ga_makeNowhere_39  (a0 : Int32) (I : zI) : Option (zI) :=
  (Rw_put_44 a0 (-6) I).bind fun I124 =>
  some I124
theorem s_Ga_makeNowhere_39  {a0 : Int32} {I : zI} {I' : zI} (hf : Ga_makeNowhere_39 a0 I = some I') (d : Nat) (hd : 1 ≤ d) : zCall d 26 [.ref 39, .int a0] (zHp I) (none) (zHp I') := by
  obtain ⟨d, rfl⟩ : ∃ e, d = e + 1 := ⟨d - 1, by omega⟩
  rw [Ga_makeNowhere_39] at hf
  show zEv _ _ _ (0, [some (.ref 39), some (.int a0)], []) _ _ _
  obtain ⟨I124, hx, hf⟩ := Option.bind_eq_some_iff.mp hf
  refine zEv_call 5 (N := 61) (vs := [.ref 44, .int a0, .int (-6)]) (v1 := none) (h1 := zHp I124) (L := [some (.ref 39), some (.int a0)]) (rest := []) (pc := 10) (fun n => rfl) (s_Rw_put_44 hx d (by omega)) rfl rfl ?_
  show zEv _ _ _ (10, [some (.ref 39), some (.int a0)], []) _ _ _
  cases hf
  exact zEv_ret 1 (fun n => rfl)
def Rw_at_46  (a0 : Int32) (I : zI) : Option (Int32) :=
  if a0 < 0 then
    some (-6)
  else
    if 12 ≤ a0 then
      some (-6)
    else
      if zIn a0 12 then
        some (I 47 (Int32.toNatClampNeg a0))
      else none
theorem s_Rw_at_46  {a0 : Int32} {I : zI} {r : Int32} (hf : Rw_at_46 a0 I = some r) (d : Nat) (hd : 0 ≤ d) : zCall d 60 [.ref 46, .int a0] (zHp I) (some (.int r)) (zHp I) := by
  rw [Rw_at_46] at hf
  show zEv _ _ _ (0, [some (.ref 46), some (.int a0)], []) _ _ _
  refine zEv_if 2 (c := a0 < 0) (f1 := (22, [some (.ref 46), some (.int a0)], [])) (f2 := (4, [some (.ref 46), some (.int a0)], [])) (h1 := zHp I) (fun n => rfl) (fun hc => ?_) (fun hc => ?_)
  · rw [if_pos hc] at hf
    cases hf
    exact zEv_ret 2 (fun n => rfl)
  · rw [if_neg hc] at hf
    refine zEv_if 5 (c := 12 ≤ a0) (f1 := (22, [some (.ref 46), some (.int a0)], [])) (f2 := (13, [some (.ref 46), some (.int a0)], [])) (h1 := zHp I) (fun n => rfl) (fun hc => ?_) (fun hc => ?_)
    · rw [if_pos hc] at hf
      cases hf
      exact zEv_ret 2 (fun n => rfl)
    · rw [if_neg hc] at hf
      obtain ⟨hc, hf⟩ := zGd_inv hf
      refine zEv_gd 4 (c := zIn a0 12) (f1 := (19, [some (.ref 46), some (.int a0)], [.int (I 47 (Int32.toNatClampNeg a0))])) (h1 := zHp I) (fun n => rfl) hc ?_
      cases hf
      exact zEv_ret 2 (fun n => rfl)
def Ga_endDay_39_L12 : Nat → Int32 → zI → Option (zI)
  | 0, _, _ => none
  | n + 1, v1, I =>
    if 12 ≤ v1 then
      some I
    else
      (Rw_at_44 v1 I).bind fun x126 =>
      (
        if x126 < 10 then
          some I
        else
          (Rw_at_46 v1 I).bind fun x128 =>
          (Rw_put_46 v1 (x128 - 1) I).bind fun I129 =>
          (
            if (x128 - 1) ≤ 0 then
              some (-6)
            else
              (Rw_at_44 v1 I129).bind fun x131 =>
              some x131 : Option (Int32)).bind fun x132 =>
          (Rw_put_44 v1 x132 I129).bind fun I133 =>
          some I133 : Option (zI)).bind fun I134 =>
      Ga_endDay_39_L12 n (v1 + 1) I134
theorem s_Ga_endDay_39_L12 (d : Nat) (hd : 1 ≤ d) : ∀ (n : Nat) {v1 : Int32} {I : zI}  {I' : zI} {v : Option Value} {h' : zH}, Ga_endDay_39_L12 n v1 I = some I' → zEv none d 36 (82, [some (.ref 39), none, none], []) (zHp I') v h' → zEv none d 36 (12, [some (.ref 39), some (.int v1), none], []) (zHp I) v h' := by
  obtain ⟨d, rfl⟩ : ∃ e, d = e + 1 := ⟨d - 1, by omega⟩
  intro n
  induction n with
  | zero => intros; rename_i hf _; cases hf
  | succ n ih =>
    intro v1 I I' v h' hf kk
    rw [Ga_endDay_39_L12] at hf
    refine zEv_if 3 (c := 12 ≤ v1) (f1 := (82, [some (.ref 39), some (.int v1), none], [])) (f2 := (18, [some (.ref 39), some (.int v1), none], [])) (h1 := zHp I) (fun n => rfl) (fun hc => ?_) (fun hc => ?_)
    · rw [if_pos hc] at hf
      obtain rfl := Option.some.inj hf
      exact zEv_weak (L := [some (.ref 39), none, none]) (by exact ⟨rfl, ⟨rfl, ⟨rfl, trivial⟩⟩⟩) kk
    · rw [if_neg hc] at hf
      obtain ⟨x126, hx, hf⟩ := Option.bind_eq_some_iff.mp hf
      refine zEv_call 4 (N := 60) (vs := [.ref 44, .int v1]) (v1 := some (.int x126)) (h1 := zHp I) (L := [some (.ref 39), some (.int v1), none]) (rest := []) (pc := 26) (fun n => rfl) (s_Rw_at_44 hx d (by omega)) rfl rfl ?_
      show zEv _ _ _ (26, [some (.ref 39), some (.int v1), none], [.int x126]) _ _ _
      obtain ⟨I134, hm_m127, hf⟩ := Option.bind_eq_some_iff.mp hf
      have hJ_m127 : zEv none (d + 1) 36 (76, [some (.ref 39), some (.int v1), none], []) (zHp I134) v h' := by
        refine zEv_go 2 (f1 := (12, [some (.ref 39), some (.int (v1 + 1)), none], [])) (h1 := zHp I134) (fun n => rfl) ?_
        refine zEv_weak (L := [some (.ref 39), some (.int (v1 + 1)), none]) (by exact ⟨rfl, ⟨rfl, ⟨rfl, trivial⟩⟩⟩) ?_
        exact ih hf kk
      clear hf
      refine zEv_if 2 (c := x126 < 10) (f1 := (76, [some (.ref 39), some (.int v1), none], [])) (f2 := (31, [some (.ref 39), some (.int v1), none], [])) (h1 := zHp I) (fun n => rfl) (fun hc => ?_) (fun hc => ?_)
      · rw [if_pos hc] at hm_m127
        obtain rfl := Option.some.inj hm_m127
        exact zEv_weak (L := [some (.ref 39), some (.int v1), none]) (by exact ⟨rfl, ⟨rfl, ⟨rfl, trivial⟩⟩⟩) hJ_m127
      · rw [if_neg hc] at hm_m127
        obtain ⟨x128, hx, hm_m127⟩ := Option.bind_eq_some_iff.mp hm_m127
        refine zEv_call 4 (N := 60) (vs := [.ref 46, .int v1]) (v1 := some (.int x128)) (h1 := zHp I) (L := [some (.ref 39), some (.int v1), none]) (rest := []) (pc := 39) (fun n => rfl) (s_Rw_at_46 hx d (by omega)) rfl rfl ?_
        show zEv _ _ _ (39, [some (.ref 39), some (.int v1), none], [.int x128]) _ _ _
        obtain ⟨I129, hx, hm_m127⟩ := Option.bind_eq_some_iff.mp hm_m127
        refine zEv_call 8 (N := 61) (vs := [.ref 46, .int v1, .int (x128 - 1)]) (v1 := none) (h1 := zHp I129) (L := [some (.ref 39), some (.int v1), some (.int (x128 - 1))]) (rest := []) (pc := 51) (fun n => rfl) (s_Rw_put_46 hx d (by omega)) rfl rfl ?_
        show zEv _ _ _ (51, [some (.ref 39), some (.int v1), some (.int (x128 - 1))], []) _ _ _
        obtain ⟨x132, hm_m130, hm_m127⟩ := Option.bind_eq_some_iff.mp hm_m127
        have hJ_m130 : zEv none (d + 1) 36 (73, [some (.ref 39), some (.int v1), none], [.int x132, .int v1, .ref 44]) (zHp I129) v h' := by
          obtain ⟨I133, hx, hm_m127⟩ := Option.bind_eq_some_iff.mp hm_m127
          refine zEv_call 1 (N := 61) (vs := [.ref 44, .int v1, .int x132]) (v1 := none) (h1 := zHp I133) (L := [some (.ref 39), some (.int v1), none]) (rest := []) (pc := 76) (fun n => rfl) (s_Rw_put_44 hx d (by omega)) rfl rfl ?_
          show zEv _ _ _ (76, [some (.ref 39), some (.int v1), none], []) _ _ _
          obtain rfl := Option.some.inj hm_m127
          exact zEv_weak (L := [some (.ref 39), some (.int v1), none]) (by exact ⟨rfl, ⟨rfl, ⟨rfl, trivial⟩⟩⟩) hJ_m127
        clear hm_m127
        refine zEv_if 5 (c := (x128 - 1) ≤ 0) (f1 := (71, [some (.ref 39), some (.int v1), some (.int (x128 - 1))], [.int v1, .ref 44])) (f2 := (60, [some (.ref 39), some (.int v1), some (.int (x128 - 1))], [.int v1, .ref 44])) (h1 := zHp I129) (fun n => rfl) (fun hc => ?_) (fun hc => ?_)
        · rw [if_pos hc] at hm_m130
          obtain rfl := Option.some.inj hm_m130
          refine zEv_go 1 (f1 := (73, [some (.ref 39), some (.int v1), some (.int (x128 - 1))], [.int (-6), .int v1, .ref 44])) (h1 := zHp I129) (fun n => rfl) ?_
          exact zEv_weak (L := [some (.ref 39), some (.int v1), none]) (by exact ⟨rfl, ⟨rfl, ⟨rfl, trivial⟩⟩⟩) hJ_m130
        · rw [if_neg hc] at hm_m130
          obtain ⟨x131, hx, hm_m130⟩ := Option.bind_eq_some_iff.mp hm_m130
          refine zEv_call 4 (N := 60) (vs := [.ref 44, .int v1]) (v1 := some (.int x131)) (h1 := zHp I129) (L := [some (.ref 39), some (.int v1), some (.int (x128 - 1))]) (rest := [.int v1, .ref 44]) (pc := 68) (fun n => rfl) (s_Rw_at_44 hx d (by omega)) rfl rfl ?_
          show zEv _ _ _ (68, [some (.ref 39), some (.int v1), some (.int (x128 - 1))], [.int x131, .int v1, .ref 44]) _ _ _
          obtain rfl := Option.some.inj hm_m130
          refine zEv_go 1 (f1 := (73, [some (.ref 39), some (.int v1), some (.int (x128 - 1))], [.int x131, .int v1, .ref 44])) (h1 := zHp I129) (fun n => rfl) ?_
          exact zEv_weak (L := [some (.ref 39), some (.int v1), none]) (by exact ⟨rfl, ⟨rfl, ⟨rfl, trivial⟩⟩⟩) hJ_m130
def Ga_endDay_39 (n : Nat) (I : zI) : Option (zI) :=
  (Ga_endDay_39_L12 n 0 (zUp I 39 7 ((I 39 7) + 1))).bind fun I135 =>
  some I135
theorem s_Ga_endDay_39 {n : Nat} {I : zI} {I' : zI} (hf : Ga_endDay_39 n I = some I') (d : Nat) (hd : 1 ≤ d) : zCall d 36 [.ref 39] (zHp I) (none) (zHp I') := by
  obtain ⟨d, rfl⟩ : ∃ e, d = e + 1 := ⟨d - 1, by omega⟩
  rw [Ga_endDay_39] at hf
  show zEv _ _ _ (0, [some (.ref 39), none, none], []) _ _ _
  obtain ⟨I135, hx, hf⟩ := Option.bind_eq_some_iff.mp hf
  refine zEv_go 8 (f1 := (12, [some (.ref 39), some (.int 0), none], [])) (h1 := zHp (zUp I 39 7 ((I 39 7) + 1))) (fun n => rfl) ?_
  refine zEv_weak (L := [some (.ref 39), some (.int 0), none]) (by exact ⟨rfl, ⟨rfl, ⟨rfl, trivial⟩⟩⟩) (s_Ga_endDay_39_L12 (d + 1) (by omega) n hx ?_)
  cases hf
  exact zEv_ret 1 (fun n => rfl)
def Ga_carryOut_39 (n : Nat) (a0 : Int32) (a1 : Int32) (a2 : Int32) (I : zI) : Option (zI) :=
  if a0 = 0 then
    (Ga_standAt_39 a1 a2 I).bind fun I104 =>
    some I104
  else if a0 = 1 then
    (Ga_sitDown_39 n a1 I).bind fun I115 =>
    some I115
  else if a0 = 2 then
    (Ga_swap_39 n a1 a2 I).bind fun I122 =>
    some I122
  else if a0 = 3 then
    (Ga_memoryAt_39 n a1 I).bind fun x123 =>
    (Ga_makeNowhere_39 x123 I).bind fun I125 =>
    some I125
  else if a0 = 4 then
    some (zUp I 39 6 ((I 39 6) ^^^ (zShl 1 a2)))
  else if a0 = 5 then
    (Ga_endDay_39 n I).bind fun I136 =>
    some I136
  else
    some I
theorem s_Ga_carryOut_39 {n : Nat} {a0 : Int32} {a1 : Int32} {a2 : Int32} {I : zI} {I' : zI} (hf : Ga_carryOut_39 n a0 a1 a2 I = some I') (d : Nat) (hd : 3 ≤ d) : zCall d 33 [.ref 39, .int a0, .int a1, .int a2] (zHp I) (none) (zHp I') := by
  obtain ⟨d, rfl⟩ : ∃ e, d = e + 1 := ⟨d - 1, by omega⟩
  rw [Ga_carryOut_39] at hf
  show zEv _ _ _ (0, [some (.ref 39), some (.int a0), some (.int a1), some (.int a2)], []) _ _ _
  refine zEv_go 1 (f1 := (1, [some (.ref 39), some (.int a0), some (.int a1), some (.int a2)], [.int a0])) (h1 := zHp I) (fun n => rfl) ?_
  by_cases hc0 : a0 = 0
  · rw [if_pos hc0] at hf
    refine zEv_tsk (off := 39) (t := 40) 0 (by rfl) hc0 (by decide) rfl rfl ?_
    obtain ⟨I104, hx, hf⟩ := Option.bind_eq_some_iff.mp hf
    refine zEv_call 4 (N := 24) (vs := [.ref 39, .int a1, .int a2]) (v1 := none) (h1 := zHp I104) (L := [some (.ref 39), some (.int a0), some (.int a1), some (.int a2)]) (rest := []) (pc := 46) (fun n => rfl) (s_Ga_standAt_39 hx d (by omega)) rfl rfl ?_
    show zEv _ _ _ (46, [some (.ref 39), some (.int a0), some (.int a1), some (.int a2)], []) _ _ _
    cases hf
    exact zEv_ret 2 (fun n => rfl)
  rw [if_neg hc0] at hf
  by_cases hc1 : a0 = 1
  · rw [if_pos hc1] at hf
    refine zEv_tsk (off := 48) (t := 49) 1 (by rfl) hc1 (by decide) rfl rfl ?_
    obtain ⟨I115, hx, hf⟩ := Option.bind_eq_some_iff.mp hf
    refine zEv_call 3 (N := 34) (vs := [.ref 39, .int a1]) (v1 := none) (h1 := zHp I115) (L := [some (.ref 39), some (.int a0), some (.int a1), some (.int a2)]) (rest := []) (pc := 54) (fun n => rfl) (s_Ga_sitDown_39 hx d (by omega)) rfl rfl ?_
    show zEv _ _ _ (54, [some (.ref 39), some (.int a0), some (.int a1), some (.int a2)], []) _ _ _
    cases hf
    exact zEv_ret 2 (fun n => rfl)
  rw [if_neg hc1] at hf
  by_cases hc2 : a0 = 2
  · rw [if_pos hc2] at hf
    refine zEv_tsk (off := 56) (t := 57) 2 (by rfl) hc2 (by decide) rfl rfl ?_
    obtain ⟨I122, hx, hf⟩ := Option.bind_eq_some_iff.mp hf
    refine zEv_call 4 (N := 35) (vs := [.ref 39, .int a1, .int a2]) (v1 := none) (h1 := zHp I122) (L := [some (.ref 39), some (.int a0), some (.int a1), some (.int a2)]) (rest := []) (pc := 63) (fun n => rfl) (s_Ga_swap_39 hx d (by omega)) rfl rfl ?_
    show zEv _ _ _ (63, [some (.ref 39), some (.int a0), some (.int a1), some (.int a2)], []) _ _ _
    cases hf
    exact zEv_ret 2 (fun n => rfl)
  rw [if_neg hc2] at hf
  by_cases hc3 : a0 = 3
  · rw [if_pos hc3] at hf
    refine zEv_tsk (off := 65) (t := 66) 3 (by rfl) hc3 (by decide) rfl rfl ?_
    obtain ⟨x123, hx, hf⟩ := Option.bind_eq_some_iff.mp hf
    refine zEv_call 4 (N := 22) (vs := [.ref 39, .int a1]) (v1 := some (.int x123)) (h1 := zHp I) (L := [some (.ref 39), some (.int a0), some (.int a1), some (.int a2)]) (rest := [.ref 39]) (pc := 72) (fun n => rfl) (s_Ga_memoryAt_39 hx d (by omega)) rfl rfl ?_
    show zEv _ _ _ (72, [some (.ref 39), some (.int a0), some (.int a1), some (.int a2)], [.int x123, .ref 39]) _ _ _
    obtain ⟨I125, hx, hf⟩ := Option.bind_eq_some_iff.mp hf
    refine zEv_call 1 (N := 26) (vs := [.ref 39, .int x123]) (v1 := none) (h1 := zHp I125) (L := [some (.ref 39), some (.int a0), some (.int a1), some (.int a2)]) (rest := []) (pc := 75) (fun n => rfl) (s_Ga_makeNowhere_39 hx d (by omega)) rfl rfl ?_
    show zEv _ _ _ (75, [some (.ref 39), some (.int a0), some (.int a1), some (.int a2)], []) _ _ _
    cases hf
    exact zEv_ret 2 (fun n => rfl)
  rw [if_neg hc3] at hf
  by_cases hc4 : a0 = 4
  · rw [if_pos hc4] at hf
    refine zEv_tsk (off := 77) (t := 78) 4 (by rfl) hc4 (by decide) rfl rfl ?_
    cases hf
    exact zEv_ret 10 (fun n => rfl)
  rw [if_neg hc4] at hf
  by_cases hc5 : a0 = 5
  · rw [if_pos hc5] at hf
    refine zEv_tsk (off := 92) (t := 93) 5 (by rfl) hc5 (by decide) rfl rfl ?_
    obtain ⟨I136, hx, hf⟩ := Option.bind_eq_some_iff.mp hf
    refine zEv_call 2 (N := 36) (vs := [.ref 39]) (v1 := none) (h1 := zHp I136) (L := [some (.ref 39), some (.int a0), some (.int a1), some (.int a2)]) (rest := []) (pc := 97) (fun n => rfl) (s_Ga_endDay_39 hx d (by omega)) rfl rfl ?_
    show zEv _ _ _ (97, [some (.ref 39), some (.int a0), some (.int a1), some (.int a2)], []) _ _ _
    cases hf
    exact zEv_ret 2 (fun n => rfl)
  rw [if_neg hc5] at hf
  have hn0 := zNt (k := 0) hc0 (by decide)
  have hn1 := zNt (k := 1) hc1 (by decide)
  have hn2 := zNt (k := 2) hc2 (by decide)
  have hn3 := zNt (k := 3) hc3 (by decide)
  have hn4 := zNt (k := 4) hc4 (by decide)
  have hn5 := zNt (k := 5) hc5 (by decide)
  refine zEv_tsd (t := 100) (by rfl) (by omega) rfl ?_
  cases hf
  exact zEv_ret 1 (fun n => rfl)
def Ga_heldBy_39 (n : Nat) (a0 : Int32) (I : zI) : Option (Int32) :=
  (Ga_memoryAt_39 n a0 I).bind fun x139 =>
  some x139
theorem s_Ga_heldBy_39 {n : Nat} {a0 : Int32} {I : zI} {r : Int32} (hf : Ga_heldBy_39 n a0 I = some r) (d : Nat) (hd : 2 ≤ d) : zCall d 20 [.ref 39, .int a0] (zHp I) (some (.int r)) (zHp I) := by
  obtain ⟨d, rfl⟩ : ∃ e, d = e + 1 := ⟨d - 1, by omega⟩
  rw [Ga_heldBy_39] at hf
  show zEv _ _ _ (0, [some (.ref 39), some (.int a0)], []) _ _ _
  obtain ⟨x139, hx, hf⟩ := Option.bind_eq_some_iff.mp hf
  refine zEv_call 3 (N := 22) (vs := [.ref 39, .int a0]) (v1 := some (.int x139)) (h1 := zHp I) (L := [some (.ref 39), some (.int a0)]) (rest := []) (pc := 5) (fun n => rfl) (s_Ga_memoryAt_39 hx d (by omega)) rfl rfl ?_
  show zEv _ _ _ (5, [some (.ref 39), some (.int a0)], [.int x139]) _ _ _
  cases hf
  exact zEv_ret 1 (fun n => rfl)
def Rw_at_50  (a0 : Int32) (I : zI) : Option (Int32) :=
  if a0 < 0 then
    some (-6)
  else
    if 12 ≤ a0 then
      some (-6)
    else
      if zIn a0 12 then
        some (I 51 (Int32.toNatClampNeg a0))
      else none
theorem s_Rw_at_50  {a0 : Int32} {I : zI} {r : Int32} (hf : Rw_at_50 a0 I = some r) (d : Nat) (hd : 0 ≤ d) : zCall d 60 [.ref 50, .int a0] (zHp I) (some (.int r)) (zHp I) := by
  rw [Rw_at_50] at hf
  show zEv _ _ _ (0, [some (.ref 50), some (.int a0)], []) _ _ _
  refine zEv_if 2 (c := a0 < 0) (f1 := (22, [some (.ref 50), some (.int a0)], [])) (f2 := (4, [some (.ref 50), some (.int a0)], [])) (h1 := zHp I) (fun n => rfl) (fun hc => ?_) (fun hc => ?_)
  · rw [if_pos hc] at hf
    cases hf
    exact zEv_ret 2 (fun n => rfl)
  · rw [if_neg hc] at hf
    refine zEv_if 5 (c := 12 ≤ a0) (f1 := (22, [some (.ref 50), some (.int a0)], [])) (f2 := (13, [some (.ref 50), some (.int a0)], [])) (h1 := zHp I) (fun n => rfl) (fun hc => ?_) (fun hc => ?_)
    · rw [if_pos hc] at hf
      cases hf
      exact zEv_ret 2 (fun n => rfl)
    · rw [if_neg hc] at hf
      obtain ⟨hc, hf⟩ := zGd_inv hf
      refine zEv_gd 4 (c := zIn a0 12) (f1 := (19, [some (.ref 50), some (.int a0)], [.int (I 51 (Int32.toNatClampNeg a0))])) (h1 := zHp I) (fun n => rfl) hc ?_
      cases hf
      exact zEv_ret 2 (fun n => rfl)
def Rw_put_50  (a0 : Int32) (a1 : Int32) (I : zI) : Option (zI) :=
  if a0 < 0 then
    some I
  else
    if 12 ≤ a0 then
      some I
    else
      if zIn a0 12 then
        some (zUp I 51 (Int32.toNatClampNeg a0) a1)
      else none
theorem s_Rw_put_50  {a0 : Int32} {a1 : Int32} {I : zI} {I' : zI} (hf : Rw_put_50 a0 a1 I = some I') (d : Nat) (hd : 0 ≤ d) : zCall d 61 [.ref 50, .int a0, .int a1] (zHp I) (none) (zHp I') := by
  rw [Rw_put_50] at hf
  show zEv _ _ _ (0, [some (.ref 50), some (.int a0), some (.int a1)], []) _ _ _
  refine zEv_if 2 (c := a0 < 0) (f1 := (20, [some (.ref 50), some (.int a0), some (.int a1)], [])) (f2 := (4, [some (.ref 50), some (.int a0), some (.int a1)], [])) (h1 := zHp I) (fun n => rfl) (fun hc => ?_) (fun hc => ?_)
  · rw [if_pos hc] at hf
    cases hf
    exact zEv_ret 1 (fun n => rfl)
  · rw [if_neg hc] at hf
    refine zEv_if 5 (c := 12 ≤ a0) (f1 := (20, [some (.ref 50), some (.int a0), some (.int a1)], [])) (f2 := (13, [some (.ref 50), some (.int a0), some (.int a1)], [])) (h1 := zHp I) (fun n => rfl) (fun hc => ?_) (fun hc => ?_)
    · rw [if_pos hc] at hf
      cases hf
      exact zEv_ret 1 (fun n => rfl)
    · rw [if_neg hc] at hf
      obtain ⟨hc, hf⟩ := zGd_inv hf
      refine zEv_gd 5 (c := zIn a0 12) (f1 := (20, [some (.ref 50), some (.int a0), some (.int a1)], [])) (h1 := zHp (zUp I 51 (Int32.toNatClampNeg a0) a1)) (fun n => rfl) hc ?_
      cases hf
      exact zEv_ret 1 (fun n => rfl)
def Co_countHand  (a0 : Int32) (I : zI) : Option (zI) :=
  (Rw_at_50 a0 I).bind fun x141 =>
  (Rw_put_50 a0 (x141 + 1) I).bind fun I142 =>
  some I142
theorem s_Co_countHand  {a0 : Int32} {I : zI} {I' : zI} (hf : Co_countHand a0 I = some I') (d : Nat) (hd : 1 ≤ d) : zCall d 4 [.ref 38, .int a0] (zHp I) (none) (zHp I') := by
  obtain ⟨d, rfl⟩ : ∃ e, d = e + 1 := ⟨d - 1, by omega⟩
  rw [Co_countHand] at hf
  show zEv _ _ _ (0, [some (.ref 38), some (.int a0)], []) _ _ _
  obtain ⟨x141, hx, hf⟩ := Option.bind_eq_some_iff.mp hf
  refine zEv_call 7 (N := 60) (vs := [.ref 50, .int a0]) (v1 := some (.int x141)) (h1 := zHp I) (L := [some (.ref 38), some (.int a0)]) (rest := [.int a0, .ref 50]) (pc := 13) (fun n => rfl) (s_Rw_at_50 hx d (by omega)) rfl rfl ?_
  show zEv _ _ _ (13, [some (.ref 38), some (.int a0)], [.int x141, .int a0, .ref 50]) _ _ _
  obtain ⟨I142, hx, hf⟩ := Option.bind_eq_some_iff.mp hf
  refine zEv_call 3 (N := 61) (vs := [.ref 50, .int a0, .int (x141 + 1)]) (v1 := none) (h1 := zHp I142) (L := [some (.ref 38), some (.int a0)]) (rest := []) (pc := 18) (fun n => rfl) (s_Rw_put_50 hx d (by omega)) rfl rfl ?_
  show zEv _ _ _ (18, [some (.ref 38), some (.int a0)], []) _ _ _
  cases hf
  exact zEv_ret 1 (fun n => rfl)
def Co_tryAct (n : Nat) (a0 : Int32) (a1 : Int32) (a2 : Int32) (I : zI) : Option (zI) :=
  (Ga_whyNot_39 n a0 a1 a2 I).bind fun x102 =>
  if x102 = 0 then
    (Ga_carryOut_39 n a0 a1 a2 I).bind fun I137 =>
    (
      if a0 = 1 then
        (Ga_heldBy_39 n a1 (zUp (zUp I137 38 2 ((I137 38 2) + 1)) 38 3 (((zUp I137 38 2 ((I137 38 2) + 1)) 38 3) + 1))).bind fun x140 =>
        (Co_countHand x140 (zUp (zUp I137 38 2 ((I137 38 2) + 1)) 38 3 (((zUp I137 38 2 ((I137 38 2) + 1)) 38 3) + 1))).bind fun I143 =>
        some I143
      else
        some (zUp I137 38 2 ((I137 38 2) + 1)) : Option (zI)).bind fun I144 =>
    if a0 = 2 then
      (Ga_heldBy_39 n a1 I144).bind fun x145 =>
      (Co_countHand x145 I144).bind fun I146 =>
      (Ga_heldBy_39 n a2 I146).bind fun x147 =>
      (Co_countHand x147 I146).bind fun I148 =>
      some I148
    else
      some I144
  else
    some (zUp (zUp I 38 4 (I 38 2)) 38 5 x102)
theorem s_Co_tryAct {n : Nat} {a0 : Int32} {a1 : Int32} {a2 : Int32} {I : zI} {I' : zI} (hf : Co_tryAct n a0 a1 a2 I = some I') (d : Nat) (hd : 4 ≤ d) : zCall d 3 [.ref 38, .int a0, .int a1, .int a2] (zHp I) (none) (zHp I') := by
  obtain ⟨d, rfl⟩ : ∃ e, d = e + 1 := ⟨d - 1, by omega⟩
  rw [Co_tryAct] at hf
  show zEv _ _ _ (0, [some (.ref 38), some (.int a0), some (.int a1), some (.int a2), none], []) _ _ _
  obtain ⟨x102, hx, hf⟩ := Option.bind_eq_some_iff.mp hf
  refine zEv_call 6 (N := 30) (vs := [.ref 39, .int a0, .int a1, .int a2]) (v1 := some (.int x102)) (h1 := zHp I) (L := [some (.ref 38), some (.int a0), some (.int a1), some (.int a2), none]) (rest := []) (pc := 10) (fun n => rfl) (s_Ga_whyNot_39 hx d (by omega)) rfl rfl ?_
  show zEv _ _ _ (10, [some (.ref 38), some (.int a0), some (.int a1), some (.int a2), none], [.int x102]) _ _ _
  refine zEv_if 3 (c := x102 = 0) (f1 := (32, [some (.ref 38), some (.int a0), some (.int a1), some (.int a2), some (.int x102)], [])) (f2 := (17, [some (.ref 38), some (.int a0), some (.int a1), some (.int a2), some (.int x102)], [])) (h1 := zHp I) (fun n => rfl) (fun hc => ?_) (fun hc => ?_)
  · rw [if_pos hc] at hf
    obtain ⟨I137, hx, hf⟩ := Option.bind_eq_some_iff.mp hf
    refine zEv_call 6 (N := 33) (vs := [.ref 39, .int a0, .int a1, .int a2]) (v1 := none) (h1 := zHp I137) (L := [some (.ref 38), some (.int a0), some (.int a1), some (.int a2), some (.int x102)]) (rest := []) (pc := 42) (fun n => rfl) (s_Ga_carryOut_39 hx d (by omega)) rfl rfl ?_
    show zEv _ _ _ (42, [some (.ref 38), some (.int a0), some (.int a1), some (.int a2), some (.int x102)], []) _ _ _
    obtain ⟨I144, hm_m138, hf⟩ := Option.bind_eq_some_iff.mp hf
    have hJ_m138 : zEv none (d + 1) 3 (79, [some (.ref 38), some (.int a0), some (.int a1), some (.int a2), none], []) (zHp I144) (none) (zHp I') := by
      refine zEv_if 3 (c := a0 = 2) (f1 := (84, [some (.ref 38), some (.int a0), some (.int a1), some (.int a2), none], [])) (f2 := (108, [some (.ref 38), some (.int a0), some (.int a1), some (.int a2), none], [])) (h1 := zHp I144) (fun n => rfl) (fun hc => ?_) (fun hc => ?_)
      · rw [if_pos hc] at hf
        obtain ⟨x145, hx, hf⟩ := Option.bind_eq_some_iff.mp hf
        refine zEv_call 5 (N := 20) (vs := [.ref 39, .int a1]) (v1 := some (.int x145)) (h1 := zHp I144) (L := [some (.ref 38), some (.int a0), some (.int a1), some (.int a2), none]) (rest := [.ref 38]) (pc := 93) (fun n => rfl) (s_Ga_heldBy_39 hx d (by omega)) rfl rfl ?_
        show zEv _ _ _ (93, [some (.ref 38), some (.int a0), some (.int a1), some (.int a2), none], [.int x145, .ref 38]) _ _ _
        obtain ⟨I146, hx, hf⟩ := Option.bind_eq_some_iff.mp hf
        refine zEv_call 1 (N := 4) (vs := [.ref 38, .int x145]) (v1 := none) (h1 := zHp I146) (L := [some (.ref 38), some (.int a0), some (.int a1), some (.int a2), none]) (rest := []) (pc := 96) (fun n => rfl) (s_Co_countHand hx d (by omega)) rfl rfl ?_
        show zEv _ _ _ (96, [some (.ref 38), some (.int a0), some (.int a1), some (.int a2), none], []) _ _ _
        obtain ⟨x147, hx, hf⟩ := Option.bind_eq_some_iff.mp hf
        refine zEv_call 5 (N := 20) (vs := [.ref 39, .int a2]) (v1 := some (.int x147)) (h1 := zHp I146) (L := [some (.ref 38), some (.int a0), some (.int a1), some (.int a2), none]) (rest := [.ref 38]) (pc := 105) (fun n => rfl) (s_Ga_heldBy_39 hx d (by omega)) rfl rfl ?_
        show zEv _ _ _ (105, [some (.ref 38), some (.int a0), some (.int a1), some (.int a2), none], [.int x147, .ref 38]) _ _ _
        obtain ⟨I148, hx, hf⟩ := Option.bind_eq_some_iff.mp hf
        refine zEv_call 1 (N := 4) (vs := [.ref 38, .int x147]) (v1 := none) (h1 := zHp I148) (L := [some (.ref 38), some (.int a0), some (.int a1), some (.int a2), none]) (rest := []) (pc := 108) (fun n => rfl) (s_Co_countHand hx d (by omega)) rfl rfl ?_
        show zEv _ _ _ (108, [some (.ref 38), some (.int a0), some (.int a1), some (.int a2), none], []) _ _ _
        cases hf
        exact zEv_ret 1 (fun n => rfl)
      · rw [if_neg hc] at hf
        cases hf
        exact zEv_ret 1 (fun n => rfl)
    clear hf
    refine zEv_if 9 (c := a0 = 1) (f1 := (57, [some (.ref 38), some (.int a0), some (.int a1), some (.int a2), some (.int x102)], [])) (f2 := (79, [some (.ref 38), some (.int a0), some (.int a1), some (.int a2), some (.int x102)], [])) (h1 := zHp (zUp I137 38 2 ((I137 38 2) + 1))) (fun n => rfl) (fun hc => ?_) (fun hc => ?_)
    · rw [if_pos hc] at hm_m138
      obtain ⟨x140, hx, hm_m138⟩ := Option.bind_eq_some_iff.mp hm_m138
      refine zEv_call 11 (N := 20) (vs := [.ref 39, .int a1]) (v1 := some (.int x140)) (h1 := zHp (zUp (zUp I137 38 2 ((I137 38 2) + 1)) 38 3 (((zUp I137 38 2 ((I137 38 2) + 1)) 38 3) + 1))) (L := [some (.ref 38), some (.int a0), some (.int a1), some (.int a2), some (.int x102)]) (rest := [.ref 38]) (pc := 76) (fun n => rfl) (s_Ga_heldBy_39 hx d (by omega)) rfl rfl ?_
      show zEv _ _ _ (76, [some (.ref 38), some (.int a0), some (.int a1), some (.int a2), some (.int x102)], [.int x140, .ref 38]) _ _ _
      obtain ⟨I143, hx, hm_m138⟩ := Option.bind_eq_some_iff.mp hm_m138
      refine zEv_call 1 (N := 4) (vs := [.ref 38, .int x140]) (v1 := none) (h1 := zHp I143) (L := [some (.ref 38), some (.int a0), some (.int a1), some (.int a2), some (.int x102)]) (rest := []) (pc := 79) (fun n => rfl) (s_Co_countHand hx d (by omega)) rfl rfl ?_
      show zEv _ _ _ (79, [some (.ref 38), some (.int a0), some (.int a1), some (.int a2), some (.int x102)], []) _ _ _
      obtain rfl := Option.some.inj hm_m138
      exact zEv_weak (L := [some (.ref 38), some (.int a0), some (.int a1), some (.int a2), none]) (by exact ⟨rfl, ⟨rfl, ⟨rfl, ⟨rfl, ⟨rfl, trivial⟩⟩⟩⟩⟩) hJ_m138
    · rw [if_neg hc] at hm_m138
      obtain rfl := Option.some.inj hm_m138
      exact zEv_weak (L := [some (.ref 38), some (.int a0), some (.int a1), some (.int a2), none]) (by exact ⟨rfl, ⟨rfl, ⟨rfl, ⟨rfl, ⟨rfl, trivial⟩⟩⟩⟩⟩) hJ_m138
  · rw [if_neg hc] at hf
    cases hf
    exact zEv_ret 8 (fun n => rfl)
def Co_tryOut_2_35_L29 : Nat → Int32 → Int32 → Int32 → zI → Option (zI)
  | 0, _, _, _, _ => none
  | n + 1, v3, v4, v5, I =>
    if (I 35 1) ≤ v5 then
      some I
    else
      if (I 38 4) = (-6) then
        (Rw_at_36 v5 I).bind fun x74 =>
        (
          if v3 = 0 then
            (BM_isOne (x74 - 65) I).bind fun x76 =>
            if x76 = 0 then
              some v4
            else
              some (x74 - 65)
          else
            some v4 : Option (Int32)).bind fun x77 =>
        (Pa_dueBehind v3 x74 I).bind fun x78 =>
        (
          if x78 = 0 then
            (Pa_actEndedBy v3 x74 I).bind fun x80 =>
            (Pa_targetOf x74 I).bind fun x82 =>
            (Co_tryAct n x80 x77 x82 I).bind fun I149 =>
            some I149
          else
            some I : Option (zI)).bind fun I150 =>
        Co_tryOut_2_35_L29 n x78 x77 (v5 + 1) I150
      else
        some I
theorem s_Co_tryOut_2_35_L29 (d : Nat) (hd : 5 ≤ d) : ∀ (n : Nat) {v3 : Int32} {v4 : Int32} {v5 : Int32} {I : zI}  {I' : zI} {v : Option Value} {h' : zH}, Co_tryOut_2_35_L29 n v3 v4 v5 I = some I' → zEv none d 1 (119, [some (.ref 38), some (.ref 2), some (.ref 35), none, none, none, none, none], []) (zHp I') v h' → zEv none d 1 (29, [some (.ref 38), some (.ref 2), some (.ref 35), some (.int v3), some (.int v4), some (.int v5), none, none], []) (zHp I) v h' := by
  obtain ⟨d, rfl⟩ : ∃ e, d = e + 1 := ⟨d - 1, by omega⟩
  intro n
  induction n with
  | zero => intros; rename_i hf _; cases hf
  | succ n ih =>
    intro v3 v4 v5 I I' v h' hf kk
    rw [Co_tryOut_2_35_L29] at hf
    refine zEv_if 4 (c := (I 35 1) ≤ v5) (f1 := (119, [some (.ref 38), some (.ref 2), some (.ref 35), some (.int v3), some (.int v4), some (.int v5), none, none], [])) (f2 := (38, [some (.ref 38), some (.ref 2), some (.ref 35), some (.int v3), some (.int v4), some (.int v5), none, none], [])) (h1 := zHp I) (fun n => rfl) (fun hc => ?_) (fun hc => ?_)
    · rw [if_pos hc] at hf
      obtain rfl := Option.some.inj hf
      exact zEv_weak (L := [some (.ref 38), some (.ref 2), some (.ref 35), none, none, none, none, none]) (by exact ⟨rfl, ⟨rfl, ⟨rfl, ⟨rfl, ⟨rfl, ⟨rfl, ⟨rfl, ⟨rfl, trivial⟩⟩⟩⟩⟩⟩⟩⟩) kk
    · rw [if_neg hc] at hf
      refine zEv_if 4 (c := (I 38 4) = (-6)) (f1 := (47, [some (.ref 38), some (.ref 2), some (.ref 35), some (.int v3), some (.int v4), some (.int v5), none, none], [])) (f2 := (119, [some (.ref 38), some (.ref 2), some (.ref 35), some (.int v3), some (.int v4), some (.int v5), none, none], [])) (h1 := zHp I) (fun n => rfl) (fun hc => ?_) (fun hc => ?_)
      · rw [if_pos hc] at hf
        obtain ⟨x74, hx, hf⟩ := Option.bind_eq_some_iff.mp hf
        refine zEv_call 4 (N := 60) (vs := [.ref 36, .int v5]) (v1 := some (.int x74)) (h1 := zHp I) (L := [some (.ref 38), some (.ref 2), some (.ref 35), some (.int v3), some (.int v4), some (.int v5), none, none]) (rest := []) (pc := 56) (fun n => rfl) (s_Rw_at_36 hx d (by omega)) rfl rfl ?_
        show zEv _ _ _ (56, [some (.ref 38), some (.ref 2), some (.ref 35), some (.int v3), some (.int v4), some (.int v5), none, none], [.int x74]) _ _ _
        obtain ⟨x77, hm_m75, hf⟩ := Option.bind_eq_some_iff.mp hf
        have hJ_m75 : zEv none (d + 1) 1 (80, [some (.ref 38), some (.ref 2), some (.ref 35), some (.int v3), some (.int x77), some (.int v5), some (.int x74), none], []) (zHp I) v h' := by
          obtain ⟨x78, hx, hf⟩ := Option.bind_eq_some_iff.mp hf
          refine zEv_call 3 (N := 49) (vs := [.int v3, .int x74]) (v1 := some (.int x78)) (h1 := zHp I) (L := [some (.ref 38), some (.ref 2), some (.ref 35), some (.int v3), some (.int x77), some (.int v5), some (.int x74), none]) (rest := []) (pc := 86) (fun n => rfl) (s_Pa_dueBehind hx d (by omega)) rfl rfl ?_
          show zEv _ _ _ (86, [some (.ref 38), some (.ref 2), some (.ref 35), some (.int v3), some (.int x77), some (.int v5), some (.int x74), none], [.int x78]) _ _ _
          obtain ⟨I150, hm_m79, hf⟩ := Option.bind_eq_some_iff.mp hf
          have hJ_m79 : zEv none (d + 1) 1 (110, [some (.ref 38), some (.ref 2), some (.ref 35), none, some (.int x77), some (.int v5), none, some (.int x78)], []) (zHp I150) v h' := by
            refine zEv_go 4 (f1 := (29, [some (.ref 38), some (.ref 2), some (.ref 35), some (.int x78), some (.int x77), some (.int (v5 + 1)), none, some (.int x78)], [])) (h1 := zHp I150) (fun n => rfl) ?_
            refine zEv_weak (L := [some (.ref 38), some (.ref 2), some (.ref 35), some (.int x78), some (.int x77), some (.int (v5 + 1)), none, none]) (by exact ⟨rfl, ⟨rfl, ⟨rfl, ⟨rfl, ⟨rfl, ⟨rfl, ⟨rfl, ⟨rfl, trivial⟩⟩⟩⟩⟩⟩⟩⟩) ?_
            exact ih hf kk
          clear hf
          refine zEv_if 3 (c := x78 = 0) (f1 := (93, [some (.ref 38), some (.ref 2), some (.ref 35), some (.int v3), some (.int x77), some (.int v5), some (.int x74), some (.int x78)], [])) (f2 := (110, [some (.ref 38), some (.ref 2), some (.ref 35), some (.int v3), some (.int x77), some (.int v5), some (.int x74), some (.int x78)], [])) (h1 := zHp I) (fun n => rfl) (fun hc => ?_) (fun hc => ?_)
          · rw [if_pos hc] at hm_m79
            obtain ⟨x80, hx, hm_m79⟩ := Option.bind_eq_some_iff.mp hm_m79
            refine zEv_call 4 (N := 52) (vs := [.int v3, .int x74]) (v1 := some (.int x80)) (h1 := zHp I) (L := [some (.ref 38), some (.ref 2), some (.ref 35), some (.int v3), some (.int x77), some (.int v5), some (.int x74), some (.int x78)]) (rest := [.ref 38]) (pc := 100) (fun n => rfl) (s_Pa_actEndedBy hx d (by omega)) rfl rfl ?_
            show zEv _ _ _ (100, [some (.ref 38), some (.ref 2), some (.ref 35), some (.int v3), some (.int x77), some (.int v5), some (.int x74), some (.int x78)], [.int x80, .ref 38]) _ _ _
            obtain ⟨x82, hx, hm_m79⟩ := Option.bind_eq_some_iff.mp hm_m79
            refine zEv_call 3 (N := 53) (vs := [.int x74]) (v1 := some (.int x82)) (h1 := zHp I) (L := [some (.ref 38), some (.ref 2), some (.ref 35), some (.int v3), some (.int x77), some (.int v5), some (.int x74), some (.int x78)]) (rest := [.int x77, .int x80, .ref 38]) (pc := 107) (fun n => rfl) (s_Pa_targetOf hx d (by omega)) rfl rfl ?_
            show zEv _ _ _ (107, [some (.ref 38), some (.ref 2), some (.ref 35), some (.int v3), some (.int x77), some (.int v5), some (.int x74), some (.int x78)], [.int x82, .int x77, .int x80, .ref 38]) _ _ _
            obtain ⟨I149, hx, hm_m79⟩ := Option.bind_eq_some_iff.mp hm_m79
            refine zEv_call 1 (N := 3) (vs := [.ref 38, .int x80, .int x77, .int x82]) (v1 := none) (h1 := zHp I149) (L := [some (.ref 38), some (.ref 2), some (.ref 35), some (.int v3), some (.int x77), some (.int v5), some (.int x74), some (.int x78)]) (rest := []) (pc := 110) (fun n => rfl) (s_Co_tryAct hx d (by omega)) rfl rfl ?_
            show zEv _ _ _ (110, [some (.ref 38), some (.ref 2), some (.ref 35), some (.int v3), some (.int x77), some (.int v5), some (.int x74), some (.int x78)], []) _ _ _
            obtain rfl := Option.some.inj hm_m79
            exact zEv_weak (L := [some (.ref 38), some (.ref 2), some (.ref 35), none, some (.int x77), some (.int v5), none, some (.int x78)]) (by exact ⟨rfl, ⟨rfl, ⟨rfl, ⟨rfl, ⟨rfl, ⟨rfl, ⟨rfl, ⟨rfl, trivial⟩⟩⟩⟩⟩⟩⟩⟩) hJ_m79
          · rw [if_neg hc] at hm_m79
            obtain rfl := Option.some.inj hm_m79
            exact zEv_weak (L := [some (.ref 38), some (.ref 2), some (.ref 35), none, some (.int x77), some (.int v5), none, some (.int x78)]) (by exact ⟨rfl, ⟨rfl, ⟨rfl, ⟨rfl, ⟨rfl, ⟨rfl, ⟨rfl, ⟨rfl, trivial⟩⟩⟩⟩⟩⟩⟩⟩) hJ_m79
        clear hf
        refine zEv_if 3 (c := v3 = 0) (f1 := (62, [some (.ref 38), some (.ref 2), some (.ref 35), some (.int v3), some (.int v4), some (.int v5), some (.int x74), none], [])) (f2 := (80, [some (.ref 38), some (.ref 2), some (.ref 35), some (.int v3), some (.int v4), some (.int v5), some (.int x74), none], [])) (h1 := zHp I) (fun n => rfl) (fun hc => ?_) (fun hc => ?_)
        · rw [if_pos hc] at hm_m75
          obtain ⟨x76, hx, hm_m75⟩ := Option.bind_eq_some_iff.mp hm_m75
          refine zEv_call 4 (N := 111) (vs := [.int (x74 - 65)]) (v1 := some (.int x76)) (h1 := zHp I) (L := [some (.ref 38), some (.ref 2), some (.ref 35), some (.int v3), some (.int v4), some (.int v5), some (.int x74), none]) (rest := []) (pc := 70) (fun n => rfl) (s_BM_isOne hx d (by omega)) rfl rfl ?_
          show zEv _ _ _ (70, [some (.ref 38), some (.ref 2), some (.ref 35), some (.int v3), some (.int v4), some (.int v5), some (.int x74), none], [.int x76]) _ _ _
          refine zEv_if 1 (c := x76 = 0) (f1 := (80, [some (.ref 38), some (.ref 2), some (.ref 35), some (.int v3), some (.int v4), some (.int v5), some (.int x74), none], [])) (f2 := (73, [some (.ref 38), some (.ref 2), some (.ref 35), some (.int v3), some (.int v4), some (.int v5), some (.int x74), none], [])) (h1 := zHp I) (fun n => rfl) (fun hc => ?_) (fun hc => ?_)
          · rw [if_pos hc] at hm_m75
            obtain rfl := Option.some.inj hm_m75
            exact zEv_weak (L := [some (.ref 38), some (.ref 2), some (.ref 35), some (.int v3), some (.int v4), some (.int v5), some (.int x74), none]) (by exact ⟨rfl, ⟨rfl, ⟨rfl, ⟨rfl, ⟨rfl, ⟨rfl, ⟨rfl, ⟨rfl, trivial⟩⟩⟩⟩⟩⟩⟩⟩) hJ_m75
          · rw [if_neg hc] at hm_m75
            obtain rfl := Option.some.inj hm_m75
            refine zEv_go 4 (f1 := (80, [some (.ref 38), some (.ref 2), some (.ref 35), some (.int v3), some (.int (x74 - 65)), some (.int v5), some (.int x74), none], [])) (h1 := zHp I) (fun n => rfl) ?_
            exact zEv_weak (L := [some (.ref 38), some (.ref 2), some (.ref 35), some (.int v3), some (.int (x74 - 65)), some (.int v5), some (.int x74), none]) (by exact ⟨rfl, ⟨rfl, ⟨rfl, ⟨rfl, ⟨rfl, ⟨rfl, ⟨rfl, ⟨rfl, trivial⟩⟩⟩⟩⟩⟩⟩⟩) hJ_m75
        · rw [if_neg hc] at hm_m75
          obtain rfl := Option.some.inj hm_m75
          exact zEv_weak (L := [some (.ref 38), some (.ref 2), some (.ref 35), some (.int v3), some (.int v4), some (.int v5), some (.int x74), none]) (by exact ⟨rfl, ⟨rfl, ⟨rfl, ⟨rfl, ⟨rfl, ⟨rfl, ⟨rfl, ⟨rfl, trivial⟩⟩⟩⟩⟩⟩⟩⟩) hJ_m75
      · rw [if_neg hc] at hf
        obtain rfl := Option.some.inj hf
        exact zEv_weak (L := [some (.ref 38), some (.ref 2), some (.ref 35), none, none, none, none, none]) (by exact ⟨rfl, ⟨rfl, ⟨rfl, ⟨rfl, ⟨rfl, ⟨rfl, ⟨rfl, ⟨rfl, trivial⟩⟩⟩⟩⟩⟩⟩⟩) kk
def Co_tryOut_2_35 (n : Nat) (I : zI) : Option (Int32 × zI) :=
  (Pa_firstFault n I).bind fun x63 =>
  if x63 = (-6) then
    (Co_begin_2 n I).bind fun I73 =>
    (Co_tryOut_2_35_L29 n 0 0 0 I73).bind fun I151 =>
    if (I151 38 4) = (-6) then
      some (0, I151)
    else
      some ((-3), I151)
  else
    some ((-5), I)
theorem s_Co_tryOut_2_35 {n : Nat} {I : zI} {r : Int32} {I' : zI} (hf : Co_tryOut_2_35 n I = some (r, I')) (d : Nat) (hd : 5 ≤ d) : zCall d 1 [.ref 38, .ref 2, .ref 35] (zHp I) (some (.int r)) (zHp I') := by
  obtain ⟨d, rfl⟩ : ∃ e, d = e + 1 := ⟨d - 1, by omega⟩
  rw [Co_tryOut_2_35] at hf
  show zEv _ _ _ (0, [some (.ref 38), some (.ref 2), some (.ref 35), none, none, none, none, none], []) _ _ _
  obtain ⟨x63, hx, hf⟩ := Option.bind_eq_some_iff.mp hf
  refine zEv_call 4 (N := 48) (vs := [.ref 35]) (v1 := some (.int x63)) (h1 := zHp I) (L := [some (.ref 38), some (.ref 2), some (.ref 35), none, none, none, none, none]) (rest := []) (pc := 8) (fun n => rfl) (s_Pa_firstFault hx d (by omega)) rfl rfl ?_
  show zEv _ _ _ (8, [some (.ref 38), some (.ref 2), some (.ref 35), none, none, none, none, none], [.int x63]) _ _ _
  refine zEv_if 2 (c := x63 = (-6)) (f1 := (16, [some (.ref 38), some (.ref 2), some (.ref 35), none, none, none, none, none], [])) (f2 := (13, [some (.ref 38), some (.ref 2), some (.ref 35), none, none, none, none, none], [])) (h1 := zHp I) (fun n => rfl) (fun hc => ?_) (fun hc => ?_)
  · rw [if_pos hc] at hf
    obtain ⟨I73, hx, hf⟩ := Option.bind_eq_some_iff.mp hf
    refine zEv_call 3 (N := 2) (vs := [.ref 38, .ref 2]) (v1 := none) (h1 := zHp I73) (L := [some (.ref 38), some (.ref 2), some (.ref 35), none, none, none, none, none]) (rest := []) (pc := 21) (fun n => rfl) (s_Co_begin_2 hx d (by omega)) rfl rfl ?_
    show zEv _ _ _ (21, [some (.ref 38), some (.ref 2), some (.ref 35), none, none, none, none, none], []) _ _ _
    obtain ⟨I151, hx, hf⟩ := Option.bind_eq_some_iff.mp hf
    refine zEv_go 6 (f1 := (29, [some (.ref 38), some (.ref 2), some (.ref 35), some (.int 0), some (.int 0), some (.int 0), none, none], [])) (h1 := zHp I73) (fun n => rfl) ?_
    refine zEv_weak (L := [some (.ref 38), some (.ref 2), some (.ref 35), some (.int 0), some (.int 0), some (.int 0), none, none]) (by exact ⟨rfl, ⟨rfl, ⟨rfl, ⟨rfl, ⟨rfl, ⟨rfl, ⟨rfl, ⟨rfl, trivial⟩⟩⟩⟩⟩⟩⟩⟩) (s_Co_tryOut_2_35_L29 (d + 1) (by omega) n hx ?_)
    refine zEv_if 4 (c := (I151 38 4) = (-6)) (f1 := (128, [some (.ref 38), some (.ref 2), some (.ref 35), none, none, none, none, none], [])) (f2 := (132, [some (.ref 38), some (.ref 2), some (.ref 35), none, none, none, none, none], [])) (h1 := zHp I151) (fun n => rfl) (fun hc => ?_) (fun hc => ?_)
    · rw [if_pos hc] at hf
      cases hf
      exact zEv_ret 3 (fun n => rfl)
    · rw [if_neg hc] at hf
      cases hf
      exact zEv_ret 2 (fun n => rfl)
  · rw [if_neg hc] at hf
    cases hf
    exact zEv_ret 2 (fun n => rfl)
def BM_judge (n : Nat) (a0 : Int32) (I : zI) : Option (Int32 × zI) :=
  (BM_isWithin a0 0 2 I).bind fun x62 =>
  if x62 = 0 then
    some ((-2), I)
  else
    (Co_tryOut_2_35 n I).bind fun (x152, I153) =>
    if x152 = (-5) then
      some (x152, I153)
    else
      if a0 = 2 then
        if x152 = (-3) then
          some (x152, I153)
        else
          if a0 = 2 then
            some ((I153 38 3), I153)
          else
            if a0 = 0 then
              some ((I153 38 4), I153)
            else
              some ((I153 38 5), I153)
      else
        if a0 = 2 then
          some ((I153 38 3), I153)
        else
          if a0 = 0 then
            some ((I153 38 4), I153)
          else
            some ((I153 38 5), I153)
theorem s_BM_judge {n : Nat} {a0 : Int32} {I : zI} {r : Int32} {I' : zI} (hf : BM_judge n a0 I = some (r, I')) (d : Nat) (hd : 6 ≤ d) : zCall d 87 [.ref 1, .int a0] (zHp I) (some (.int r)) (zHp I') := by
  obtain ⟨d, rfl⟩ : ∃ e, d = e + 1 := ⟨d - 1, by omega⟩
  rw [BM_judge] at hf
  show zEv _ _ _ (0, [some (.ref 1), some (.int a0), none], []) _ _ _
  obtain ⟨x62, hx, hf⟩ := Option.bind_eq_some_iff.mp hf
  refine zEv_call 4 (N := 109) (vs := [.int a0, .int 0, .int 2]) (v1 := some (.int x62)) (h1 := zHp I) (L := [some (.ref 1), some (.int a0), none]) (rest := []) (pc := 6) (fun n => rfl) (s_BM_isWithin hx d (by omega)) rfl rfl ?_
  show zEv _ _ _ (6, [some (.ref 1), some (.int a0), none], [.int x62]) _ _ _
  refine zEv_if 1 (c := x62 = 0) (f1 := (9, [some (.ref 1), some (.int a0), none], [])) (f2 := (12, [some (.ref 1), some (.int a0), none], [])) (h1 := zHp I) (fun n => rfl) (fun hc => ?_) (fun hc => ?_)
  · rw [if_pos hc] at hf
    cases hf
    exact zEv_ret 2 (fun n => rfl)
  · rw [if_neg hc] at hf
    obtain ⟨⟨x152, I153⟩, hx, hf⟩ := Option.bind_eq_some_iff.mp hf
    dsimp only at hf
    refine zEv_call 7 (N := 1) (vs := [.ref 38, .ref 2, .ref 35]) (v1 := some (.int x152)) (h1 := zHp I153) (L := [some (.ref 1), some (.int a0), none]) (rest := []) (pc := 27) (fun n => rfl) (s_Co_tryOut_2_35 hx d (by omega)) rfl rfl ?_
    show zEv _ _ _ (27, [some (.ref 1), some (.int a0), none], [.int x152]) _ _ _
    refine zEv_if 4 (c := x152 = (-5)) (f1 := (45, [some (.ref 1), some (.int a0), some (.int x152)], [])) (f2 := (34, [some (.ref 1), some (.int a0), some (.int x152)], [])) (h1 := zHp I153) (fun n => rfl) (fun hc => ?_) (fun hc => ?_)
    · rw [if_pos hc] at hf
      cases hf
      exact zEv_ret 2 (fun n => rfl)
    · rw [if_neg hc] at hf
      refine zEv_if 3 (c := a0 = 2) (f1 := (39, [some (.ref 1), some (.int a0), some (.int x152)], [])) (f2 := (47, [some (.ref 1), some (.int a0), some (.int x152)], [])) (h1 := zHp I153) (fun n => rfl) (fun hc => ?_) (fun hc => ?_)
      · rw [if_pos hc] at hf
        refine zEv_if 3 (c := x152 = (-3)) (f1 := (45, [some (.ref 1), some (.int a0), some (.int x152)], [])) (f2 := (47, [some (.ref 1), some (.int a0), some (.int x152)], [])) (h1 := zHp I153) (fun n => rfl) (fun hc => ?_) (fun hc => ?_)
        · rw [if_pos hc] at hf
          cases hf
          exact zEv_ret 2 (fun n => rfl)
        · rw [if_neg hc] at hf
          refine zEv_if 3 (c := a0 = 2) (f1 := (52, [some (.ref 1), some (.int a0), some (.int x152)], [])) (f2 := (60, [some (.ref 1), some (.int a0), some (.int x152)], [])) (h1 := zHp I153) (fun n => rfl) (fun hc => ?_) (fun hc => ?_)
          · rw [if_pos hc] at hf
            cases hf
            exact zEv_ret 4 (fun n => rfl)
          · rw [if_neg hc] at hf
            refine zEv_if 2 (c := a0 = 0) (f1 := (64, [some (.ref 1), some (.int a0), some (.int x152)], [])) (f2 := (74, [some (.ref 1), some (.int a0), some (.int x152)], [])) (h1 := zHp I153) (fun n => rfl) (fun hc => ?_) (fun hc => ?_)
            · rw [if_pos hc] at hf
              cases hf
              exact zEv_ret 5 (fun n => rfl)
            · rw [if_neg hc] at hf
              cases hf
              exact zEv_ret 4 (fun n => rfl)
      · rw [if_neg hc] at hf
        refine zEv_if 3 (c := a0 = 2) (f1 := (52, [some (.ref 1), some (.int a0), some (.int x152)], [])) (f2 := (60, [some (.ref 1), some (.int a0), some (.int x152)], [])) (h1 := zHp I153) (fun n => rfl) (fun hc => ?_) (fun hc => ?_)
        · rw [if_pos hc] at hf
          cases hf
          exact zEv_ret 4 (fun n => rfl)
        · rw [if_neg hc] at hf
          refine zEv_if 2 (c := a0 = 0) (f1 := (64, [some (.ref 1), some (.int a0), some (.int x152)], [])) (f2 := (74, [some (.ref 1), some (.int a0), some (.int x152)], [])) (h1 := zHp I153) (fun n => rfl) (fun hc => ?_) (fun hc => ?_)
          · rw [if_pos hc] at hf
            cases hf
            exact zEv_ret 5 (fun n => rfl)
          · rw [if_neg hc] at hf
            cases hf
            exact zEv_ret 4 (fun n => rfl)
def BM_behind (n : Nat) (a0 : Int32) (a1 : Int32) (I : zI) : Option (Int32 × zI) :=
  (BM_isOne a0 I).bind fun x154 =>
  if x154 = 0 then
    some ((-1), I)
  else
    (BM_isWithin a1 0 1 I).bind fun x155 =>
    if x155 = 0 then
      some ((-2), I)
    else
      (Co_tryOut_2_35 n I).bind fun (x156, I157) =>
      if x156 = 0 then
        if a1 = 0 then
          (Ga_benchOf_39 a0 I157).bind fun x158 =>
          some (x158, I157)
        else
          (Ga_heldBy_39 n a0 I157).bind fun x159 =>
          some (x159, I157)
      else
        some (x156, I157)
theorem s_BM_behind {n : Nat} {a0 : Int32} {a1 : Int32} {I : zI} {r : Int32} {I' : zI} (hf : BM_behind n a0 a1 I = some (r, I')) (d : Nat) (hd : 6 ≤ d) : zCall d 88 [.ref 1, .int a0, .int a1] (zHp I) (some (.int r)) (zHp I') := by
  obtain ⟨d, rfl⟩ : ∃ e, d = e + 1 := ⟨d - 1, by omega⟩
  rw [BM_behind] at hf
  show zEv _ _ _ (0, [some (.ref 1), some (.int a0), some (.int a1), none], []) _ _ _
  obtain ⟨x154, hx, hf⟩ := Option.bind_eq_some_iff.mp hf
  refine zEv_call 2 (N := 111) (vs := [.int a0]) (v1 := some (.int x154)) (h1 := zHp I) (L := [some (.ref 1), some (.int a0), some (.int a1), none]) (rest := []) (pc := 4) (fun n => rfl) (s_BM_isOne hx d (by omega)) rfl rfl ?_
  show zEv _ _ _ (4, [some (.ref 1), some (.int a0), some (.int a1), none], [.int x154]) _ _ _
  refine zEv_if 1 (c := x154 = 0) (f1 := (7, [some (.ref 1), some (.int a0), some (.int a1), none], [])) (f2 := (9, [some (.ref 1), some (.int a0), some (.int a1), none], [])) (h1 := zHp I) (fun n => rfl) (fun hc => ?_) (fun hc => ?_)
  · rw [if_pos hc] at hf
    cases hf
    exact zEv_ret 2 (fun n => rfl)
  · rw [if_neg hc] at hf
    obtain ⟨x155, hx, hf⟩ := Option.bind_eq_some_iff.mp hf
    refine zEv_call 4 (N := 109) (vs := [.int a1, .int 0, .int 1]) (v1 := some (.int x155)) (h1 := zHp I) (L := [some (.ref 1), some (.int a0), some (.int a1), none]) (rest := []) (pc := 15) (fun n => rfl) (s_BM_isWithin hx d (by omega)) rfl rfl ?_
    show zEv _ _ _ (15, [some (.ref 1), some (.int a0), some (.int a1), none], [.int x155]) _ _ _
    refine zEv_if 1 (c := x155 = 0) (f1 := (18, [some (.ref 1), some (.int a0), some (.int a1), none], [])) (f2 := (21, [some (.ref 1), some (.int a0), some (.int a1), none], [])) (h1 := zHp I) (fun n => rfl) (fun hc => ?_) (fun hc => ?_)
    · rw [if_pos hc] at hf
      cases hf
      exact zEv_ret 2 (fun n => rfl)
    · rw [if_neg hc] at hf
      obtain ⟨⟨x156, I157⟩, hx, hf⟩ := Option.bind_eq_some_iff.mp hf
      dsimp only at hf
      refine zEv_call 7 (N := 1) (vs := [.ref 38, .ref 2, .ref 35]) (v1 := some (.int x156)) (h1 := zHp I157) (L := [some (.ref 1), some (.int a0), some (.int a1), none]) (rest := []) (pc := 36) (fun n => rfl) (s_Co_tryOut_2_35 hx d (by omega)) rfl rfl ?_
      show zEv _ _ _ (36, [some (.ref 1), some (.int a0), some (.int a1), none], [.int x156]) _ _ _
      refine zEv_if 3 (c := x156 = 0) (f1 := (43, [some (.ref 1), some (.int a0), some (.int a1), some (.int x156)], [])) (f2 := (41, [some (.ref 1), some (.int a0), some (.int a1), some (.int x156)], [])) (h1 := zHp I157) (fun n => rfl) (fun hc => ?_) (fun hc => ?_)
      · rw [if_pos hc] at hf
        refine zEv_if 2 (c := a1 = 0) (f1 := (47, [some (.ref 1), some (.int a0), some (.int a1), some (.int x156)], [])) (f2 := (61, [some (.ref 1), some (.int a0), some (.int a1), some (.int x156)], [])) (h1 := zHp I157) (fun n => rfl) (fun hc => ?_) (fun hc => ?_)
        · rw [if_pos hc] at hf
          obtain ⟨x158, hx, hf⟩ := Option.bind_eq_some_iff.mp hf
          refine zEv_call 5 (N := 18) (vs := [.ref 39, .int a0]) (v1 := some (.int x158)) (h1 := zHp I157) (L := [some (.ref 1), some (.int a0), some (.int a1), some (.int x156)]) (rest := []) (pc := 58) (fun n => rfl) (s_Ga_benchOf_39 hx d (by omega)) rfl rfl ?_
          show zEv _ _ _ (58, [some (.ref 1), some (.int a0), some (.int a1), some (.int x156)], [.int x158]) _ _ _
          cases hf
          exact zEv_ret 2 (fun n => rfl)
        · rw [if_neg hc] at hf
          obtain ⟨x159, hx, hf⟩ := Option.bind_eq_some_iff.mp hf
          refine zEv_call 5 (N := 20) (vs := [.ref 39, .int a0]) (v1 := some (.int x159)) (h1 := zHp I157) (L := [some (.ref 1), some (.int a0), some (.int a1), some (.int x156)]) (rest := []) (pc := 72) (fun n => rfl) (s_Ga_heldBy_39 hx d (by omega)) rfl rfl ?_
          show zEv _ _ _ (72, [some (.ref 1), some (.int a0), some (.int a1), some (.int x156)], [.int x159]) _ _ _
          cases hf
          exact zEv_ret 1 (fun n => rfl)
      · rw [if_neg hc] at hf
        cases hf
        exact zEv_ret 2 (fun n => rfl)
def Ga_lyingOn_39 (n : Nat) (a0 : Int32) (I : zI) : Option (Int32) :=
  (Ga_memoryAt_39 n (10 + a0) I).bind fun x164 =>
  some x164
theorem s_Ga_lyingOn_39 {n : Nat} {a0 : Int32} {I : zI} {r : Int32} (hf : Ga_lyingOn_39 n a0 I = some r) (d : Nat) (hd : 2 ≤ d) : zCall d 21 [.ref 39, .int a0] (zHp I) (some (.int r)) (zHp I) := by
  obtain ⟨d, rfl⟩ : ∃ e, d = e + 1 := ⟨d - 1, by omega⟩
  rw [Ga_lyingOn_39] at hf
  show zEv _ _ _ (0, [some (.ref 39), some (.int a0)], []) _ _ _
  obtain ⟨x164, hx, hf⟩ := Option.bind_eq_some_iff.mp hf
  refine zEv_call 5 (N := 22) (vs := [.ref 39, .int (10 + a0)]) (v1 := some (.int x164)) (h1 := zHp I) (L := [some (.ref 39), some (.int a0)]) (rest := []) (pc := 8) (fun n => rfl) (s_Ga_memoryAt_39 hx d (by omega)) rfl rfl ?_
  show zEv _ _ _ (8, [some (.ref 39), some (.int a0)], [.int x164]) _ _ _
  cases hf
  exact zEv_ret 1 (fun n => rfl)
def Ga_freshOn_39 (n : Nat) (a0 : Int32) (I : zI) : Option (Int32) :=
  (Ga_lyingOn_39 n a0 I).bind fun x166 =>
  if x166 = (-6) then
    some (-6)
  else
    (Rw_at_46 x166 I).bind fun x167 =>
    some x167
theorem s_Ga_freshOn_39 {n : Nat} {a0 : Int32} {I : zI} {r : Int32} (hf : Ga_freshOn_39 n a0 I = some r) (d : Nat) (hd : 3 ≤ d) : zCall d 23 [.ref 39, .int a0] (zHp I) (some (.int r)) (zHp I) := by
  obtain ⟨d, rfl⟩ : ∃ e, d = e + 1 := ⟨d - 1, by omega⟩
  rw [Ga_freshOn_39] at hf
  show zEv _ _ _ (0, [some (.ref 39), some (.int a0), none], []) _ _ _
  obtain ⟨x166, hx, hf⟩ := Option.bind_eq_some_iff.mp hf
  refine zEv_call 3 (N := 21) (vs := [.ref 39, .int a0]) (v1 := some (.int x166)) (h1 := zHp I) (L := [some (.ref 39), some (.int a0), none]) (rest := []) (pc := 5) (fun n => rfl) (s_Ga_lyingOn_39 hx d (by omega)) rfl rfl ?_
  show zEv _ _ _ (5, [some (.ref 39), some (.int a0), none], [.int x166]) _ _ _
  refine zEv_if 4 (c := x166 = (-6)) (f1 := (12, [some (.ref 39), some (.int a0), some (.int x166)], [])) (f2 := (17, [some (.ref 39), some (.int a0), some (.int x166)], [])) (h1 := zHp I) (fun n => rfl) (fun hc => ?_) (fun hc => ?_)
  · rw [if_pos hc] at hf
    cases hf
    exact zEv_ret 3 (fun n => rfl)
  · rw [if_neg hc] at hf
    obtain ⟨x167, hx, hf⟩ := Option.bind_eq_some_iff.mp hf
    refine zEv_call 4 (N := 60) (vs := [.ref 46, .int x166]) (v1 := some (.int x167)) (h1 := zHp I) (L := [some (.ref 39), some (.int a0), some (.int x166)]) (rest := []) (pc := 25) (fun n => rfl) (s_Rw_at_46 hx d (by omega)) rfl rfl ?_
    show zEv _ _ _ (25, [some (.ref 39), some (.int a0), some (.int x166)], [.int x167]) _ _ _
    cases hf
    exact zEv_ret 1 (fun n => rfl)
def BM_lies (n : Nat) (a0 : Int32) (a1 : Int32) (I : zI) : Option (Int32 × zI) :=
  (BM_isBench a0 I).bind fun x160 =>
  if x160 = 0 then
    some ((-1), I)
  else
    (BM_isWithin a1 0 1 I).bind fun x161 =>
    if x161 = 0 then
      some ((-2), I)
    else
      (Co_tryOut_2_35 n I).bind fun (x162, I163) =>
      if x162 = 0 then
        if a1 = 0 then
          (Ga_lyingOn_39 n a0 I163).bind fun x165 =>
          some (x165, I163)
        else
          (Ga_freshOn_39 n a0 I163).bind fun x168 =>
          some (x168, I163)
      else
        some (x162, I163)
theorem s_BM_lies {n : Nat} {a0 : Int32} {a1 : Int32} {I : zI} {r : Int32} {I' : zI} (hf : BM_lies n a0 a1 I = some (r, I')) (d : Nat) (hd : 6 ≤ d) : zCall d 89 [.ref 1, .int a0, .int a1] (zHp I) (some (.int r)) (zHp I') := by
  obtain ⟨d, rfl⟩ : ∃ e, d = e + 1 := ⟨d - 1, by omega⟩
  rw [BM_lies] at hf
  show zEv _ _ _ (0, [some (.ref 1), some (.int a0), some (.int a1), none], []) _ _ _
  obtain ⟨x160, hx, hf⟩ := Option.bind_eq_some_iff.mp hf
  refine zEv_call 2 (N := 110) (vs := [.int a0]) (v1 := some (.int x160)) (h1 := zHp I) (L := [some (.ref 1), some (.int a0), some (.int a1), none]) (rest := []) (pc := 4) (fun n => rfl) (s_BM_isBench hx d (by omega)) rfl rfl ?_
  show zEv _ _ _ (4, [some (.ref 1), some (.int a0), some (.int a1), none], [.int x160]) _ _ _
  refine zEv_if 1 (c := x160 = 0) (f1 := (7, [some (.ref 1), some (.int a0), some (.int a1), none], [])) (f2 := (9, [some (.ref 1), some (.int a0), some (.int a1), none], [])) (h1 := zHp I) (fun n => rfl) (fun hc => ?_) (fun hc => ?_)
  · rw [if_pos hc] at hf
    cases hf
    exact zEv_ret 2 (fun n => rfl)
  · rw [if_neg hc] at hf
    obtain ⟨x161, hx, hf⟩ := Option.bind_eq_some_iff.mp hf
    refine zEv_call 4 (N := 109) (vs := [.int a1, .int 0, .int 1]) (v1 := some (.int x161)) (h1 := zHp I) (L := [some (.ref 1), some (.int a0), some (.int a1), none]) (rest := []) (pc := 15) (fun n => rfl) (s_BM_isWithin hx d (by omega)) rfl rfl ?_
    show zEv _ _ _ (15, [some (.ref 1), some (.int a0), some (.int a1), none], [.int x161]) _ _ _
    refine zEv_if 1 (c := x161 = 0) (f1 := (18, [some (.ref 1), some (.int a0), some (.int a1), none], [])) (f2 := (21, [some (.ref 1), some (.int a0), some (.int a1), none], [])) (h1 := zHp I) (fun n => rfl) (fun hc => ?_) (fun hc => ?_)
    · rw [if_pos hc] at hf
      cases hf
      exact zEv_ret 2 (fun n => rfl)
    · rw [if_neg hc] at hf
      obtain ⟨⟨x162, I163⟩, hx, hf⟩ := Option.bind_eq_some_iff.mp hf
      dsimp only at hf
      refine zEv_call 7 (N := 1) (vs := [.ref 38, .ref 2, .ref 35]) (v1 := some (.int x162)) (h1 := zHp I163) (L := [some (.ref 1), some (.int a0), some (.int a1), none]) (rest := []) (pc := 36) (fun n => rfl) (s_Co_tryOut_2_35 hx d (by omega)) rfl rfl ?_
      show zEv _ _ _ (36, [some (.ref 1), some (.int a0), some (.int a1), none], [.int x162]) _ _ _
      refine zEv_if 3 (c := x162 = 0) (f1 := (43, [some (.ref 1), some (.int a0), some (.int a1), some (.int x162)], [])) (f2 := (41, [some (.ref 1), some (.int a0), some (.int a1), some (.int x162)], [])) (h1 := zHp I163) (fun n => rfl) (fun hc => ?_) (fun hc => ?_)
      · rw [if_pos hc] at hf
        refine zEv_if 2 (c := a1 = 0) (f1 := (47, [some (.ref 1), some (.int a0), some (.int a1), some (.int x162)], [])) (f2 := (61, [some (.ref 1), some (.int a0), some (.int a1), some (.int x162)], [])) (h1 := zHp I163) (fun n => rfl) (fun hc => ?_) (fun hc => ?_)
        · rw [if_pos hc] at hf
          obtain ⟨x165, hx, hf⟩ := Option.bind_eq_some_iff.mp hf
          refine zEv_call 5 (N := 21) (vs := [.ref 39, .int a0]) (v1 := some (.int x165)) (h1 := zHp I163) (L := [some (.ref 1), some (.int a0), some (.int a1), some (.int x162)]) (rest := []) (pc := 58) (fun n => rfl) (s_Ga_lyingOn_39 hx d (by omega)) rfl rfl ?_
          show zEv _ _ _ (58, [some (.ref 1), some (.int a0), some (.int a1), some (.int x162)], [.int x165]) _ _ _
          cases hf
          exact zEv_ret 2 (fun n => rfl)
        · rw [if_neg hc] at hf
          obtain ⟨x168, hx, hf⟩ := Option.bind_eq_some_iff.mp hf
          refine zEv_call 5 (N := 23) (vs := [.ref 39, .int a0]) (v1 := some (.int x168)) (h1 := zHp I163) (L := [some (.ref 1), some (.int a0), some (.int a1), some (.int x162)]) (rest := []) (pc := 72) (fun n => rfl) (s_Ga_freshOn_39 hx d (by omega)) rfl rfl ?_
          show zEv _ _ _ (72, [some (.ref 1), some (.int a0), some (.int a1), some (.int x162)], [.int x168]) _ _ _
          cases hf
          exact zEv_ret 1 (fun n => rfl)
      · rw [if_neg hc] at hf
        cases hf
        exact zEv_ret 2 (fun n => rfl)
def Ga_placeOf_39  (a0 : Int32) (I : zI) : Option (Int32) :=
  (Rw_at_44 a0 I).bind fun x174 =>
  some x174
theorem s_Ga_placeOf_39  {a0 : Int32} {I : zI} {r : Int32} (hf : Ga_placeOf_39 a0 I = some r) (d : Nat) (hd : 1 ≤ d) : zCall d 19 [.ref 39, .int a0] (zHp I) (some (.int r)) (zHp I) := by
  obtain ⟨d, rfl⟩ : ∃ e, d = e + 1 := ⟨d - 1, by omega⟩
  rw [Ga_placeOf_39] at hf
  show zEv _ _ _ (0, [some (.ref 39), some (.int a0)], []) _ _ _
  obtain ⟨x174, hx, hf⟩ := Option.bind_eq_some_iff.mp hf
  refine zEv_call 4 (N := 60) (vs := [.ref 44, .int a0]) (v1 := some (.int x174)) (h1 := zHp I) (L := [some (.ref 39), some (.int a0)]) (rest := []) (pc := 8) (fun n => rfl) (s_Rw_at_44 hx d (by omega)) rfl rfl ?_
  show zEv _ _ _ (8, [some (.ref 39), some (.int a0)], [.int x174]) _ _ _
  cases hf
  exact zEv_ret 1 (fun n => rfl)
