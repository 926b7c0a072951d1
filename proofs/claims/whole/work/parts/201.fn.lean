def Pa_dueBehindDeed  (a0 : Int32) (I : zI) : Option (Int32) :=
  if a0 = 120 then
    some 3
  else
    (BM_isBench (a0 - 48) I).bind fun x56 =>
    if x56 = 0 then
      if a0 = 95 then
        some 0
      else
        if a0 = 33 then
          some 0
        else
          some (-6)
    else
      some 0
theorem s_Pa_dueBehindDeed  {a0 : Int32} {I : zI} {r : Int32} (hf : Pa_dueBehindDeed a0 I = some r) (d : Nat) (hd : 2 ≤ d) : zCall d 51 [.int a0] (zHp I) (some (.int r)) (zHp I) := by
  obtain ⟨d, rfl⟩ : ∃ e, d = e + 1 := ⟨d - 1, by omega⟩
  rw [Pa_dueBehindDeed] at hf
  show zEv _ _ _ (0, [some (.int a0)], []) _ _ _
  refine zEv_if 3 (c := a0 = 120) (f1 := (6, [some (.int a0)], [])) (f2 := (8, [some (.int a0)], [])) (h1 := zHp I) (fun n => rfl) (fun hc => ?_) (fun hc => ?_)
  · rw [if_pos hc] at hf
    cases hf
    exact zEv_ret 2 (fun n => rfl)
  · rw [if_neg hc] at hf
    obtain ⟨x56, hx, hf⟩ := Option.bind_eq_some_iff.mp hf
    refine zEv_call 4 (N := 110) (vs := [.int (a0 - 48)]) (v1 := some (.int x56)) (h1 := zHp I) (L := [some (.int a0)]) (rest := []) (pc := 15) (fun n => rfl) (s_BM_isBench hx d (by omega)) rfl rfl ?_
    show zEv _ _ _ (15, [some (.int a0)], [.int x56]) _ _ _
    refine zEv_if 1 (c := x56 = 0) (f1 := (18, [some (.int a0)], [])) (f2 := (30, [some (.int a0)], [])) (h1 := zHp I) (fun n => rfl) (fun hc => ?_) (fun hc => ?_)
    · rw [if_pos hc] at hf
      refine zEv_if 3 (c := a0 = 95) (f1 := (30, [some (.int a0)], [])) (f2 := (24, [some (.int a0)], [])) (h1 := zHp I) (fun n => rfl) (fun hc => ?_) (fun hc => ?_)
      · rw [if_pos hc] at hf
        cases hf
        exact zEv_ret 3 (fun n => rfl)
      · rw [if_neg hc] at hf
        refine zEv_if 3 (c := a0 = 33) (f1 := (30, [some (.int a0)], [])) (f2 := (34, [some (.int a0)], [])) (h1 := zHp I) (fun n => rfl) (fun hc => ?_) (fun hc => ?_)
        · rw [if_pos hc] at hf
          cases hf
          exact zEv_ret 3 (fun n => rfl)
        · rw [if_neg hc] at hf
          cases hf
          exact zEv_ret 2 (fun n => rfl)
    · rw [if_neg hc] at hf
      cases hf
      exact zEv_ret 3 (fun n => rfl)
def Pa_dueBehind  (a0 : Int32) (a1 : Int32) (I : zI) : Option (Int32) :=
  if a0 = 0 then
    (Pa_dueBehindStart a1 I).bind fun x55 =>
    some x55
  else if a0 = 1 then
    (Pa_dueBehindDeed a1 I).bind fun x57 =>
    some x57
  else if a0 = 2 then
    (BM_isBench (a1 - 48) I).bind fun x58 =>
    if x58 = 0 then
      some (-6)
    else
      some 0
  else if a0 = 3 then
    (BM_isOne (a1 - 65) I).bind fun x59 =>
    if x59 = 0 then
      some (-6)
    else
      some 0
  else
    some (-6)
theorem s_Pa_dueBehind  {a0 : Int32} {a1 : Int32} {I : zI} {r : Int32} (hf : Pa_dueBehind a0 a1 I = some r) (d : Nat) (hd : 3 ≤ d) : zCall d 49 [.int a0, .int a1] (zHp I) (some (.int r)) (zHp I) := by
  obtain ⟨d, rfl⟩ : ∃ e, d = e + 1 := ⟨d - 1, by omega⟩
  rw [Pa_dueBehind] at hf
  show zEv _ _ _ (0, [some (.int a0), some (.int a1)], []) _ _ _
  refine zEv_go 1 (f1 := (1, [some (.int a0), some (.int a1)], [.int a0])) (h1 := zHp I) (fun n => rfl) ?_
  by_cases hc0 : a0 = 0
  · rw [if_pos hc0] at hf
    refine zEv_tsk (off := 31) (t := 32) 0 (by rfl) hc0 (by decide) rfl rfl ?_
    obtain ⟨x55, hx, hf⟩ := Option.bind_eq_some_iff.mp hf
    refine zEv_call 2 (N := 50) (vs := [.int a1]) (v1 := some (.int x55)) (h1 := zHp I) (L := [some (.int a0), some (.int a1)]) (rest := []) (pc := 36) (fun n => rfl) (s_Pa_dueBehindStart hx d (by omega)) rfl rfl ?_
    show zEv _ _ _ (36, [some (.int a0), some (.int a1)], [.int x55]) _ _ _
    cases hf
    exact zEv_ret 1 (fun n => rfl)
  rw [if_neg hc0] at hf
  by_cases hc1 : a0 = 1
  · rw [if_pos hc1] at hf
    refine zEv_tsk (off := 36) (t := 37) 1 (by rfl) hc1 (by decide) rfl rfl ?_
    obtain ⟨x57, hx, hf⟩ := Option.bind_eq_some_iff.mp hf
    refine zEv_call 2 (N := 51) (vs := [.int a1]) (v1 := some (.int x57)) (h1 := zHp I) (L := [some (.int a0), some (.int a1)]) (rest := []) (pc := 41) (fun n => rfl) (s_Pa_dueBehindDeed hx d (by omega)) rfl rfl ?_
    show zEv _ _ _ (41, [some (.int a0), some (.int a1)], [.int x57]) _ _ _
    cases hf
    exact zEv_ret 1 (fun n => rfl)
  rw [if_neg hc1] at hf
  by_cases hc2 : a0 = 2
  · rw [if_pos hc2] at hf
    refine zEv_tsk (off := 41) (t := 42) 2 (by rfl) hc2 (by decide) rfl rfl ?_
    obtain ⟨x58, hx, hf⟩ := Option.bind_eq_some_iff.mp hf
    refine zEv_call 4 (N := 110) (vs := [.int (a1 - 48)]) (v1 := some (.int x58)) (h1 := zHp I) (L := [some (.int a0), some (.int a1)]) (rest := []) (pc := 49) (fun n => rfl) (s_BM_isBench hx d (by omega)) rfl rfl ?_
    show zEv _ _ _ (49, [some (.int a0), some (.int a1)], [.int x58]) _ _ _
    refine zEv_if 1 (c := x58 = 0) (f1 := (56, [some (.int a0), some (.int a1)], [])) (f2 := (52, [some (.int a0), some (.int a1)], [])) (h1 := zHp I) (fun n => rfl) (fun hc => ?_) (fun hc => ?_)
    · rw [if_pos hc] at hf
      cases hf
      exact zEv_ret 2 (fun n => rfl)
    · rw [if_neg hc] at hf
      cases hf
      exact zEv_ret 3 (fun n => rfl)
  rw [if_neg hc2] at hf
  by_cases hc3 : a0 = 3
  · rw [if_pos hc3] at hf
    refine zEv_tsk (off := 58) (t := 59) 3 (by rfl) hc3 (by decide) rfl rfl ?_
    obtain ⟨x59, hx, hf⟩ := Option.bind_eq_some_iff.mp hf
    refine zEv_call 4 (N := 111) (vs := [.int (a1 - 65)]) (v1 := some (.int x59)) (h1 := zHp I) (L := [some (.int a0), some (.int a1)]) (rest := []) (pc := 66) (fun n => rfl) (s_BM_isOne hx d (by omega)) rfl rfl ?_
    show zEv _ _ _ (66, [some (.int a0), some (.int a1)], [.int x59]) _ _ _
    refine zEv_if 1 (c := x59 = 0) (f1 := (73, [some (.int a0), some (.int a1)], [])) (f2 := (69, [some (.int a0), some (.int a1)], [])) (h1 := zHp I) (fun n => rfl) (fun hc => ?_) (fun hc => ?_)
    · rw [if_pos hc] at hf
      cases hf
      exact zEv_ret 2 (fun n => rfl)
    · rw [if_neg hc] at hf
      cases hf
      exact zEv_ret 3 (fun n => rfl)
  rw [if_neg hc3] at hf
  have hn0 := zNt (k := 0) hc0 (by decide)
  have hn1 := zNt (k := 1) hc1 (by decide)
  have hn2 := zNt (k := 2) hc2 (by decide)
  have hn3 := zNt (k := 3) hc3 (by decide)
  refine zEv_tsd (t := 76) (by rfl) (by omega) rfl ?_
  cases hf
  exact zEv_ret 2 (fun n => rfl)
def Pa_firstFault_L4 : Nat → Int32 → Int32 → zI → Option (Int32)
  | 0, _, _, _ => none
  | n + 1, v1, v2, I =>
    if (I 35 1) ≤ v2 then
      if v1 = 0 then
        some (-6)
      else
        some (I 35 1)
    else
      (Rw_at_36 v2 I).bind fun x53 =>
      (Pa_dueBehind v1 x53 I).bind fun x60 =>
      if x60 = (-6) then
        some v2
      else
        Pa_firstFault_L4 n x60 (v2 + 1) I
theorem s_Pa_firstFault_L4 (d : Nat) (hd : 4 ≤ d) : ∀ (n : Nat) {v1 : Int32} {v2 : Int32} {I : zI} {r : Int32}, Pa_firstFault_L4 n v1 v2 I = some r → zEv none d 48 (4, [some (.ref 35), some (.int v1), some (.int v2)], []) (zHp I) (some (.int r)) (zHp I) := by
  obtain ⟨d, rfl⟩ : ∃ e, d = e + 1 := ⟨d - 1, by omega⟩
  intro n
  induction n with
  | zero => intros; rename_i hf; cases hf
  | succ n ih =>
    intro v1 v2 I r hf
    rw [Pa_firstFault_L4] at hf
    refine zEv_if 4 (c := (I 35 1) ≤ v2) (f1 := (39, [some (.ref 35), some (.int v1), some (.int v2)], [])) (f2 := (12, [some (.ref 35), some (.int v1), some (.int v2)], [])) (h1 := zHp I) (fun n => rfl) (fun hc => ?_) (fun hc => ?_)
    · rw [if_pos hc] at hf
      refine zEv_if 2 (c := v1 = 0) (f1 := (43, [some (.ref 35), some (.int v1), some (.int v2)], [])) (f2 := (48, [some (.ref 35), some (.int v1), some (.int v2)], [])) (h1 := zHp I) (fun n => rfl) (fun hc => ?_) (fun hc => ?_)
      · rw [if_pos hc] at hf
        cases hf
        exact zEv_ret 3 (fun n => rfl)
      · rw [if_neg hc] at hf
        cases hf
        exact zEv_ret 3 (fun n => rfl)
    · rw [if_neg hc] at hf
      obtain ⟨x53, hx, hf⟩ := Option.bind_eq_some_iff.mp hf
      refine zEv_call 5 (N := 60) (vs := [.ref 36, .int v2]) (v1 := some (.int x53)) (h1 := zHp I) (L := [some (.ref 35), some (.int v1), some (.int v2)]) (rest := [.int v1]) (pc := 21) (fun n => rfl) (s_Rw_at_36 hx d (by omega)) rfl rfl ?_
      show zEv _ _ _ (21, [some (.ref 35), some (.int v1), some (.int v2)], [.int x53, .int v1]) _ _ _
      obtain ⟨x60, hx, hf⟩ := Option.bind_eq_some_iff.mp hf
      refine zEv_call 1 (N := 49) (vs := [.int v1, .int x53]) (v1 := some (.int x60)) (h1 := zHp I) (L := [some (.ref 35), some (.int v1), some (.int v2)]) (rest := []) (pc := 24) (fun n => rfl) (s_Pa_dueBehind hx d (by omega)) rfl rfl ?_
      show zEv _ _ _ (24, [some (.ref 35), some (.int v1), some (.int v2)], [.int x60]) _ _ _
      refine zEv_if 4 (c := x60 = (-6)) (f1 := (31, [some (.ref 35), some (.int x60), some (.int v2)], [])) (f2 := (33, [some (.ref 35), some (.int x60), some (.int v2)], [])) (h1 := zHp I) (fun n => rfl) (fun hc => ?_) (fun hc => ?_)
      · rw [if_pos hc] at hf
        cases hf
        exact zEv_ret 2 (fun n => rfl)
      · rw [if_neg hc] at hf
        refine zEv_go 2 (f1 := (4, [some (.ref 35), some (.int x60), some (.int (v2 + 1))], [])) (h1 := zHp I) (fun n => rfl) ?_
        refine zEv_weak (L := [some (.ref 35), some (.int x60), some (.int (v2 + 1))]) (by exact ⟨rfl, ⟨rfl, ⟨rfl, trivial⟩⟩⟩) ?_
        exact ih hf
def Pa_firstFault (n : Nat) (I : zI) : Option (Int32) :=
  Pa_firstFault_L4 n 0 0 I
theorem s_Pa_firstFault {n : Nat} {I : zI} {r : Int32} (hf : Pa_firstFault n I = some r) (d : Nat) (hd : 4 ≤ d) : zCall d 48 [.ref 35] (zHp I) (some (.int r)) (zHp I) := by
  obtain ⟨d, rfl⟩ : ∃ e, d = e + 1 := ⟨d - 1, by omega⟩
  rw [Pa_firstFault] at hf
  show zEv _ _ _ (0, [some (.ref 35), none, none], []) _ _ _
  refine zEv_go 4 (f1 := (4, [some (.ref 35), some (.int 0), some (.int 0)], [])) (h1 := zHp I) (fun n => rfl) ?_
  exact zEv_weak (L := [some (.ref 35), some (.int 0), some (.int 0)]) (by exact ⟨rfl, ⟨rfl, ⟨rfl, trivial⟩⟩⟩) (s_Pa_firstFault_L4 (d + 1) (by omega) n hf)
def BM_fault (n : Nat) (I : zI) : Option (Int32) :=
  (Pa_firstFault n I).bind fun x61 =>
  some x61
theorem s_BM_fault {n : Nat} {I : zI} {r : Int32} (hf : BM_fault n I = some r) (d : Nat) (hd : 5 ≤ d) : zCall d 86 [.ref 1] (zHp I) (some (.int r)) (zHp I) := by
  obtain ⟨d, rfl⟩ : ∃ e, d = e + 1 := ⟨d - 1, by omega⟩
  rw [BM_fault] at hf
  show zEv _ _ _ (0, [some (.ref 1)], []) _ _ _
  obtain ⟨x61, hx, hf⟩ := Option.bind_eq_some_iff.mp hf
  refine zEv_call 3 (N := 48) (vs := [.ref 35]) (v1 := some (.int x61)) (h1 := zHp I) (L := [some (.ref 1)]) (rest := []) (pc := 7) (fun n => rfl) (s_Pa_firstFault hx d (by omega)) rfl rfl ?_
  show zEv _ _ _ (7, [some (.ref 1)], [.int x61]) _ _ _
  cases hf
  exact zEv_ret 1 (fun n => rfl)
def Rw_copyFrom_40_3  (I : zI) : Option (zI) :=
  some (zRow I 41 (va_cpy (I 4) (I 41) 0 0 10))
theorem s_Rw_copyFrom_40_3  {I : zI} {I' : zI} (hf : Rw_copyFrom_40_3 I = some I') (d : Nat) (hd : 1 ≤ d) : zCall d 63 [.ref 40, .ref 3] (zHp I) (none) (zHp I') := by
  obtain ⟨d, rfl⟩ : ∃ e, d = e + 1 := ⟨d - 1, by omega⟩
  rw [Rw_copyFrom_40_3] at hf
  show zEv _ _ _ (0, [some (.ref 40), some (.ref 3)], []) _ _ _
  cases hf
  exact zEv_ret 20 (fun n => rfl)
def Rw_copyFrom_42_5  (I : zI) : Option (zI) :=
  some (zRow I 43 (va_cpy (I 6) (I 43) 0 0 8))
theorem s_Rw_copyFrom_42_5  {I : zI} {I' : zI} (hf : Rw_copyFrom_42_5 I = some I') (d : Nat) (hd : 1 ≤ d) : zCall d 63 [.ref 42, .ref 5] (zHp I) (none) (zHp I') := by
  obtain ⟨d, rfl⟩ : ∃ e, d = e + 1 := ⟨d - 1, by omega⟩
  rw [Rw_copyFrom_42_5] at hf
  show zEv _ _ _ (0, [some (.ref 42), some (.ref 5)], []) _ _ _
  cases hf
  exact zEv_ret 20 (fun n => rfl)
def Rw_copyFrom_44_7  (I : zI) : Option (zI) :=
  some (zRow I 45 (va_cpy (I 8) (I 45) 0 0 12))
theorem s_Rw_copyFrom_44_7  {I : zI} {I' : zI} (hf : Rw_copyFrom_44_7 I = some I') (d : Nat) (hd : 1 ≤ d) : zCall d 63 [.ref 44, .ref 7] (zHp I) (none) (zHp I') := by
  obtain ⟨d, rfl⟩ : ∃ e, d = e + 1 := ⟨d - 1, by omega⟩
  rw [Rw_copyFrom_44_7] at hf
  show zEv _ _ _ (0, [some (.ref 44), some (.ref 7)], []) _ _ _
  cases hf
  exact zEv_ret 20 (fun n => rfl)
def Rw_copyFrom_46_9  (I : zI) : Option (zI) :=
  some (zRow I 47 (va_cpy (I 10) (I 47) 0 0 12))
theorem s_Rw_copyFrom_46_9  {I : zI} {I' : zI} (hf : Rw_copyFrom_46_9 I = some I') (d : Nat) (hd : 1 ≤ d) : zCall d 63 [.ref 46, .ref 9] (zHp I) (none) (zHp I') := by
  obtain ⟨d, rfl⟩ : ∃ e, d = e + 1 := ⟨d - 1, by omega⟩
  rw [Rw_copyFrom_46_9] at hf
  show zEv _ _ _ (0, [some (.ref 46), some (.ref 9)], []) _ _ _
  cases hf
  exact zEv_ret 20 (fun n => rfl)
def Rw_copyFrom_48_11  (I : zI) : Option (zI) :=
  some (zRow I 49 (va_cpy (I 12) (I 49) 0 0 8))
theorem s_Rw_copyFrom_48_11  {I : zI} {I' : zI} (hf : Rw_copyFrom_48_11 I = some I') (d : Nat) (hd : 1 ≤ d) : zCall d 63 [.ref 48, .ref 11] (zHp I) (none) (zHp I') := by
  obtain ⟨d, rfl⟩ : ∃ e, d = e + 1 := ⟨d - 1, by omega⟩
  rw [Rw_copyFrom_48_11] at hf
  show zEv _ _ _ (0, [some (.ref 48), some (.ref 11)], []) _ _ _
  cases hf
  exact zEv_ret 20 (fun n => rfl)
def Ga_copyFrom_39_2  (I : zI) : Option (zI) :=
  (Rw_copyFrom_40_3 I).bind fun I64 =>
  (Rw_copyFrom_42_5 I64).bind fun I65 =>
  (Rw_copyFrom_44_7 I65).bind fun I66 =>
  (Rw_copyFrom_46_9 I66).bind fun I67 =>
  (Rw_copyFrom_48_11 I67).bind fun I68 =>
  some (zUp (zUp (zUp I68 39 5 (I68 2 5)) 39 6 ((zUp I68 39 5 (I68 2 5)) 2 6)) 39 7 ((zUp (zUp I68 39 5 (I68 2 5)) 39 6 ((zUp I68 39 5 (I68 2 5)) 2 6)) 2 7))
theorem s_Ga_copyFrom_39_2  {I : zI} {I' : zI} (hf : Ga_copyFrom_39_2 I = some I') (d : Nat) (hd : 2 ≤ d) : zCall d 10 [.ref 39, .ref 2] (zHp I) (none) (zHp I') := by
  obtain ⟨d, rfl⟩ : ∃ e, d = e + 1 := ⟨d - 1, by omega⟩
  rw [Ga_copyFrom_39_2] at hf
  show zEv _ _ _ (0, [some (.ref 39), some (.ref 2)], []) _ _ _
  obtain ⟨I64, hx, hf⟩ := Option.bind_eq_some_iff.mp hf
  refine zEv_call 7 (N := 63) (vs := [.ref 40, .ref 3]) (v1 := none) (h1 := zHp I64) (L := [some (.ref 39), some (.ref 2)]) (rest := []) (pc := 16) (fun n => rfl) (s_Rw_copyFrom_40_3 hx d (by omega)) rfl rfl ?_
  show zEv _ _ _ (16, [some (.ref 39), some (.ref 2)], []) _ _ _
  obtain ⟨I65, hx, hf⟩ := Option.bind_eq_some_iff.mp hf
  refine zEv_call 5 (N := 63) (vs := [.ref 42, .ref 5]) (v1 := none) (h1 := zHp I65) (L := [some (.ref 39), some (.ref 2)]) (rest := []) (pc := 27) (fun n => rfl) (s_Rw_copyFrom_42_5 hx d (by omega)) rfl rfl ?_
  show zEv _ _ _ (27, [some (.ref 39), some (.ref 2)], []) _ _ _
  obtain ⟨I66, hx, hf⟩ := Option.bind_eq_some_iff.mp hf
  refine zEv_call 5 (N := 63) (vs := [.ref 44, .ref 7]) (v1 := none) (h1 := zHp I66) (L := [some (.ref 39), some (.ref 2)]) (rest := []) (pc := 38) (fun n => rfl) (s_Rw_copyFrom_44_7 hx d (by omega)) rfl rfl ?_
  show zEv _ _ _ (38, [some (.ref 39), some (.ref 2)], []) _ _ _
  obtain ⟨I67, hx, hf⟩ := Option.bind_eq_some_iff.mp hf
  refine zEv_call 5 (N := 63) (vs := [.ref 46, .ref 9]) (v1 := none) (h1 := zHp I67) (L := [some (.ref 39), some (.ref 2)]) (rest := []) (pc := 49) (fun n => rfl) (s_Rw_copyFrom_46_9 hx d (by omega)) rfl rfl ?_
  show zEv _ _ _ (49, [some (.ref 39), some (.ref 2)], []) _ _ _
  obtain ⟨I68, hx, hf⟩ := Option.bind_eq_some_iff.mp hf
  refine zEv_call 5 (N := 63) (vs := [.ref 48, .ref 11]) (v1 := none) (h1 := zHp I68) (L := [some (.ref 39), some (.ref 2)]) (rest := []) (pc := 60) (fun n => rfl) (s_Rw_copyFrom_48_11 hx d (by omega)) rfl rfl ?_
  show zEv _ _ _ (60, [some (.ref 39), some (.ref 2)], []) _ _ _
  cases hf
  exact zEv_ret 13 (fun n => rfl)
def Ar_fill_51_L5 : Nat → Int32 → Int32 → Int32 → zI → Option (zI)
  | 0, _, _, _, _ => none
  | n + 1, v1, v2, v3, I =>
    if v3 ≤ v2 then
      some I
    else
      if zIn v2 12 then
        Ar_fill_51_L5 n v1 (v2 + 1) v3 (zUp I 51 (Int32.toNatClampNeg v2) v1)
      else none
theorem s_Ar_fill_51_L5 (d : Nat) (hd : 0 ≤ d) : ∀ (n : Nat) {v1 : Int32} {v2 : Int32} {v3 : Int32} {I : zI}  {I' : zI} {v : Option Value} {h' : zH}, Ar_fill_51_L5 n v1 v2 v3 I = some I' → zEv none d 198 (20, [some (.ref 51), none, none, none], []) (zHp I') v h' → zEv none d 198 (5, [some (.ref 51), some (.int v1), some (.int v2), some (.int v3)], []) (zHp I) v h' := by
  intro n
  induction n with
  | zero => intros; rename_i hf _; cases hf
  | succ n ih =>
    intro v1 v2 v3 I I' v h' hf kk
    rw [Ar_fill_51_L5] at hf
    refine zEv_if 3 (c := v3 ≤ v2) (f1 := (20, [some (.ref 51), some (.int v1), some (.int v2), some (.int v3)], [])) (f2 := (10, [some (.ref 51), some (.int v1), some (.int v2), some (.int v3)], [])) (h1 := zHp I) (fun n => rfl) (fun hc => ?_) (fun hc => ?_)
    · rw [if_pos hc] at hf
      obtain rfl := Option.some.inj hf
      exact zEv_weak (L := [some (.ref 51), none, none, none]) (by exact ⟨rfl, ⟨rfl, ⟨rfl, ⟨rfl, trivial⟩⟩⟩⟩) kk
    · rw [if_neg hc] at hf
      obtain ⟨hc, hf⟩ := zGd_inv hf
      refine zEv_gd 4 (c := zIn v2 12) (f1 := (14, [some (.ref 51), some (.int v1), some (.int v2), some (.int v3)], [])) (h1 := zHp (zUp I 51 (Int32.toNatClampNeg v2) v1)) (fun n => rfl) hc ?_
      refine zEv_go 2 (f1 := (5, [some (.ref 51), some (.int v1), some (.int (v2 + 1)), some (.int v3)], [])) (h1 := zHp (zUp I 51 (Int32.toNatClampNeg v2) v1)) (fun n => rfl) ?_
      refine zEv_weak (L := [some (.ref 51), some (.int v1), some (.int (v2 + 1)), some (.int v3)]) (by exact ⟨rfl, ⟨rfl, ⟨rfl, ⟨rfl, trivial⟩⟩⟩⟩) ?_
      exact ih hf kk
def Ar_fill_51 (n : Nat) (a0 : Int32) (I : zI) : Option (zI) :=
  (Ar_fill_51_L5 n a0 0 12 I).bind fun I70 =>
  some I70
theorem s_Ar_fill_51 {n : Nat} {a0 : Int32} {I : zI} {I' : zI} (hf : Ar_fill_51 n a0 I = some I') (d : Nat) (hd : 0 ≤ d) : zCall d 198 [.ref 51, .int a0] (zHp I) (none) (zHp I') := by
  rw [Ar_fill_51] at hf
  show zEv _ _ _ (0, [some (.ref 51), some (.int a0), none, none], []) _ _ _
  obtain ⟨I70, hx, hf⟩ := Option.bind_eq_some_iff.mp hf
  refine zEv_go 5 (f1 := (5, [some (.ref 51), some (.int a0), some (.int 0), some (.int 12)], [])) (h1 := zHp I) (fun n => rfl) ?_
  refine zEv_weak (L := [some (.ref 51), some (.int a0), some (.int 0), some (.int 12)]) (by exact ⟨rfl, ⟨rfl, ⟨rfl, ⟨rfl, trivial⟩⟩⟩⟩) (s_Ar_fill_51_L5 (d) (by omega) n hx ?_)
  cases hf
  exact zEv_ret 1 (fun n => rfl)
def Rw_fillWith_50 (n : Nat) (a0 : Int32) (I : zI) : Option (zI) :=
  (Ar_fill_51 n a0 I).bind fun I71 =>
  some I71
theorem s_Rw_fillWith_50 {n : Nat} {a0 : Int32} {I : zI} {I' : zI} (hf : Rw_fillWith_50 n a0 I = some I') (d : Nat) (hd : 1 ≤ d) : zCall d 62 [.ref 50, .int a0] (zHp I) (none) (zHp I') := by
  obtain ⟨d, rfl⟩ : ∃ e, d = e + 1 := ⟨d - 1, by omega⟩
  rw [Rw_fillWith_50] at hf
  show zEv _ _ _ (0, [some (.ref 50), some (.int a0)], []) _ _ _
  obtain ⟨I71, hx, hf⟩ := Option.bind_eq_some_iff.mp hf
  refine zEv_call 4 (N := 198) (vs := [.ref 51, .int a0]) (v1 := none) (h1 := zHp I71) (L := [some (.ref 50), some (.int a0)]) (rest := []) (pc := 8) (fun n => rfl) (s_Ar_fill_51 hx d (by omega)) rfl rfl ?_
  show zEv _ _ _ (8, [some (.ref 50), some (.int a0)], []) _ _ _
  cases hf
  exact zEv_ret 1 (fun n => rfl)
def Co_begin_2 (n : Nat) (I : zI) : Option (zI) :=
  (Ga_copyFrom_39_2 I).bind fun I69 =>
  (Rw_fillWith_50 n 0 I69).bind fun I72 =>
  some (zUp (zUp (zUp (zUp I72 38 2 0) 38 3 0) 38 4 (-6)) 38 5 (-6))
theorem s_Co_begin_2 {n : Nat} {I : zI} {I' : zI} (hf : Co_begin_2 n I = some I') (d : Nat) (hd : 3 ≤ d) : zCall d 2 [.ref 38, .ref 2] (zHp I) (none) (zHp I') := by
  obtain ⟨d, rfl⟩ : ∃ e, d = e + 1 := ⟨d - 1, by omega⟩
  rw [Co_begin_2] at hf
  show zEv _ _ _ (0, [some (.ref 38), some (.ref 2)], []) _ _ _
  obtain ⟨I69, hx, hf⟩ := Option.bind_eq_some_iff.mp hf
  refine zEv_call 4 (N := 10) (vs := [.ref 39, .ref 2]) (v1 := none) (h1 := zHp I69) (L := [some (.ref 38), some (.ref 2)]) (rest := []) (pc := 8) (fun n => rfl) (s_Ga_copyFrom_39_2 hx d (by omega)) rfl rfl ?_
  show zEv _ _ _ (8, [some (.ref 38), some (.ref 2)], []) _ _ _
  obtain ⟨I72, hx, hf⟩ := Option.bind_eq_some_iff.mp hf
  refine zEv_call 4 (N := 62) (vs := [.ref 50, .int 0]) (v1 := none) (h1 := zHp I72) (L := [some (.ref 38), some (.ref 2)]) (rest := []) (pc := 16) (fun n => rfl) (s_Rw_fillWith_50 hx d (by omega)) rfl rfl ?_
  show zEv _ _ _ (16, [some (.ref 38), some (.ref 2)], []) _ _ _
  cases hf
  exact zEv_ret 13 (fun n => rfl)
def Pa_actEndedBy  (a0 : Int32) (a1 : Int32) (I : zI) : Option (Int32) :=
  if a1 = 33 then
    some 3
  else if a1 = 46 then
    some 5
  else if a1 = 95 then
    some 1
  else
    if a0 = 2 then
      some 4
    else if a0 = 3 then
      some 2
    else
      some 0
theorem s_Pa_actEndedBy  {a0 : Int32} {a1 : Int32} {I : zI} {r : Int32} (hf : Pa_actEndedBy a0 a1 I = some r) (d : Nat) (hd : 0 ≤ d) : zCall d 52 [.int a0, .int a1] (zHp I) (some (.int r)) (zHp I) := by
  rw [Pa_actEndedBy] at hf
  show zEv _ _ _ (0, [some (.int a0), some (.int a1)], []) _ _ _
  refine zEv_go 1 (f1 := (1, [some (.int a0), some (.int a1)], [.int a1])) (h1 := zHp I) (fun n => rfl) ?_
  by_cases hc0 : a1 = 33
  · rw [if_pos hc0] at hf
    refine zEv_ls (off := 37) (t := 38) (by rfl) (by decide) (by rw [hc0]; decide) rfl ?_
    cases hf
    exact zEv_ret 2 (fun n => rfl)
  rw [if_neg hc0] at hf
  by_cases hc1 : a1 = 46
  · rw [if_pos hc1] at hf
    refine zEv_ls (off := 39) (t := 40) (by rfl) (by decide) (by rw [hc1]; decide) rfl ?_
    cases hf
    exact zEv_ret 2 (fun n => rfl)
  rw [if_neg hc1] at hf
  by_cases hc2 : a1 = 95
  · rw [if_pos hc2] at hf
    refine zEv_ls (off := 35) (t := 36) (by rfl) (by decide) (by rw [hc2]; decide) rfl ?_
    cases hf
    exact zEv_ret 2 (fun n => rfl)
  rw [if_neg hc2] at hf
  have hn0 := zNt (k := 33) hc0 (by decide)
  have hn1 := zNt (k := 46) hc1 (by decide)
  have hn2 := zNt (k := 95) hc2 (by decide)
  refine zEv_ls (off := 41) (t := 42) (by rfl) (by decide) (by simp only [Array.toList, Op.lookupswitch.offset_cons]; rw [if_neg (fun q => hn0 q.symm)]; rw [if_neg (fun q => hn1 q.symm)]; rw [if_neg (fun q => hn2 q.symm)]; rfl) rfl ?_
  refine zEv_go 1 (f1 := (43, [some (.int a0), some (.int a1)], [.int a0])) (h1 := zHp I) (fun n => rfl) ?_
  by_cases hc0 : a0 = 2
  · rw [if_pos hc0] at hf
    refine zEv_ls (off := 25) (t := 68) (by rfl) (by decide) (by rw [hc0]; decide) rfl ?_
    cases hf
    exact zEv_ret 2 (fun n => rfl)
  rw [if_neg hc0] at hf
  by_cases hc1 : a0 = 3
  · rw [if_pos hc1] at hf
    refine zEv_ls (off := 27) (t := 70) (by rfl) (by decide) (by rw [hc1]; decide) rfl ?_
    cases hf
    exact zEv_ret 2 (fun n => rfl)
  rw [if_neg hc1] at hf
  have hn0 := zNt (k := 2) hc0 (by decide)
  have hn1 := zNt (k := 3) hc1 (by decide)
  refine zEv_ls (off := 29) (t := 72) (by rfl) (by decide) (by simp only [Array.toList, Op.lookupswitch.offset_cons]; rw [if_neg (fun q => hn0 q.symm)]; rw [if_neg (fun q => hn1 q.symm)]; rfl) rfl ?_
  cases hf
  exact zEv_ret 2 (fun n => rfl)
def Pa_targetOf  (a0 : Int32) (I : zI) : Option (Int32) :=
  (BM_isOne (a0 - 65) I).bind fun x81 =>
  if x81 = 0 then
    some (a0 - 48)
  else
    some (a0 - 65)
theorem s_Pa_targetOf  {a0 : Int32} {I : zI} {r : Int32} (hf : Pa_targetOf a0 I = some r) (d : Nat) (hd : 2 ≤ d) : zCall d 53 [.int a0] (zHp I) (some (.int r)) (zHp I) := by
  obtain ⟨d, rfl⟩ : ∃ e, d = e + 1 := ⟨d - 1, by omega⟩
  rw [Pa_targetOf] at hf
  show zEv _ _ _ (0, [some (.int a0)], []) _ _ _
  obtain ⟨x81, hx, hf⟩ := Option.bind_eq_some_iff.mp hf
  refine zEv_call 4 (N := 111) (vs := [.int (a0 - 65)]) (v1 := some (.int x81)) (h1 := zHp I) (L := [some (.int a0)]) (rest := []) (pc := 7) (fun n => rfl) (s_BM_isOne hx d (by omega)) rfl rfl ?_
  show zEv _ _ _ (7, [some (.int a0)], [.int x81]) _ _ _
  refine zEv_if 1 (c := x81 = 0) (f1 := (17, [some (.int a0)], [])) (f2 := (10, [some (.int a0)], [])) (h1 := zHp I) (fun n => rfl) (fun hc => ?_) (fun hc => ?_)
  · rw [if_pos hc] at hf
    cases hf
    exact zEv_ret 4 (fun n => rfl)
  · rw [if_neg hc] at hf
    cases hf
    exact zEv_ret 5 (fun n => rfl)
def Rw_at_42  (a0 : Int32) (I : zI) : Option (Int32) :=
  if a0 < 0 then
    some (-6)
  else
    if 8 ≤ a0 then
      some (-6)
    else
      if zIn a0 8 then
        some (I 43 (Int32.toNatClampNeg a0))
      else none
theorem s_Rw_at_42  {a0 : Int32} {I : zI} {r : Int32} (hf : Rw_at_42 a0 I = some r) (d : Nat) (hd : 0 ≤ d) : zCall d 60 [.ref 42, .int a0] (zHp I) (some (.int r)) (zHp I) := by
  rw [Rw_at_42] at hf
  show zEv _ _ _ (0, [some (.ref 42), some (.int a0)], []) _ _ _
  refine zEv_if 2 (c := a0 < 0) (f1 := (22, [some (.ref 42), some (.int a0)], [])) (f2 := (4, [some (.ref 42), some (.int a0)], [])) (h1 := zHp I) (fun n => rfl) (fun hc => ?_) (fun hc => ?_)
  · rw [if_pos hc] at hf
    cases hf
    exact zEv_ret 2 (fun n => rfl)
  · rw [if_neg hc] at hf
    refine zEv_if 5 (c := 8 ≤ a0) (f1 := (22, [some (.ref 42), some (.int a0)], [])) (f2 := (13, [some (.ref 42), some (.int a0)], [])) (h1 := zHp I) (fun n => rfl) (fun hc => ?_) (fun hc => ?_)
    · rw [if_pos hc] at hf
      cases hf
      exact zEv_ret 2 (fun n => rfl)
    · rw [if_neg hc] at hf
      obtain ⟨hc, hf⟩ := zGd_inv hf
      refine zEv_gd 4 (c := zIn a0 8) (f1 := (19, [some (.ref 42), some (.int a0)], [.int (I 43 (Int32.toNatClampNeg a0))])) (h1 := zHp I) (fun n => rfl) hc ?_
      cases hf
      exact zEv_ret 2 (fun n => rfl)
def Ga_benchOf_39  (a0 : Int32) (I : zI) : Option (Int32) :=
  (Rw_at_42 a0 I).bind fun x83 =>
  some x83
theorem s_Ga_benchOf_39  {a0 : Int32} {I : zI} {r : Int32} (hf : Ga_benchOf_39 a0 I = some r) (d : Nat) (hd : 1 ≤ d) : zCall d 18 [.ref 39, .int a0] (zHp I) (some (.int r)) (zHp I) := by
  obtain ⟨d, rfl⟩ : ∃ e, d = e + 1 := ⟨d - 1, by omega⟩
  rw [Ga_benchOf_39] at hf
  show zEv _ _ _ (0, [some (.ref 39), some (.int a0)], []) _ _ _
  obtain ⟨x83, hx, hf⟩ := Option.bind_eq_some_iff.mp hf
  refine zEv_call 4 (N := 60) (vs := [.ref 42, .int a0]) (v1 := some (.int x83)) (h1 := zHp I) (L := [some (.ref 39), some (.int a0)]) (rest := []) (pc := 8) (fun n => rfl) (s_Rw_at_42 hx d (by omega)) rfl rfl ?_
  show zEv _ _ _ (8, [some (.ref 39), some (.int a0)], [.int x83]) _ _ _
  cases hf
  exact zEv_ret 1 (fun n => rfl)
def Rw_at_40  (a0 : Int32) (I : zI) : Option (Int32) :=
  if a0 < 0 then
    some (-6)
  else
    if 10 ≤ a0 then
      some (-6)
    else
      if zIn a0 10 then
        some (I 41 (Int32.toNatClampNeg a0))
      else none
theorem s_Rw_at_40  {a0 : Int32} {I : zI} {r : Int32} (hf : Rw_at_40 a0 I = some r) (d : Nat) (hd : 0 ≤ d) : zCall d 60 [.ref 40, .int a0] (zHp I) (some (.int r)) (zHp I) := by
  rw [Rw_at_40] at hf
  show zEv _ _ _ (0, [some (.ref 40), some (.int a0)], []) _ _ _
  refine zEv_if 2 (c := a0 < 0) (f1 := (22, [some (.ref 40), some (.int a0)], [])) (f2 := (4, [some (.ref 40), some (.int a0)], [])) (h1 := zHp I) (fun n => rfl) (fun hc => ?_) (fun hc => ?_)
  · rw [if_pos hc] at hf
    cases hf
    exact zEv_ret 2 (fun n => rfl)
  · rw [if_neg hc] at hf
    refine zEv_if 5 (c := 10 ≤ a0) (f1 := (22, [some (.ref 40), some (.int a0)], [])) (f2 := (13, [some (.ref 40), some (.int a0)], [])) (h1 := zHp I) (fun n => rfl) (fun hc => ?_) (fun hc => ?_)
    · rw [if_pos hc] at hf
      cases hf
      exact zEv_ret 2 (fun n => rfl)
    · rw [if_neg hc] at hf
      obtain ⟨hc, hf⟩ := zGd_inv hf
      refine zEv_gd 4 (c := zIn a0 10) (f1 := (19, [some (.ref 40), some (.int a0)], [.int (I 41 (Int32.toNatClampNeg a0))])) (h1 := zHp I) (fun n => rfl) hc ?_
      cases hf
      exact zEv_ret 2 (fun n => rfl)
def BM_has  (a0 : Int32) (a1 : Int32) (I : zI) : Option (Int32) :=
  if ((zShr a0 a1) &&& 1) = 0 then
    some 0
  else
    some 1
theorem s_BM_has  {a0 : Int32} {a1 : Int32} {I : zI} {r : Int32} (hf : BM_has a0 a1 I = some r) (d : Nat) (hd : 0 ≤ d) : zCall d 113 [.int a0, .int a1] (zHp I) (some (.int r)) (zHp I) := by
  rw [BM_has] at hf
  show zEv _ _ _ (0, [some (.int a0), some (.int a1)], []) _ _ _
  refine zEv_if 6 (c := ((zShr a0 a1) &&& 1) = 0) (f1 := (12, [some (.int a0), some (.int a1)], [])) (f2 := (8, [some (.int a0), some (.int a1)], [])) (h1 := zHp I) (fun n => rfl) (fun hc => ?_) (fun hc => ?_)
  · rw [if_pos hc] at hf
    cases hf
    exact zEv_ret 2 (fun n => rfl)
  · rw [if_neg hc] at hf
    cases hf
    exact zEv_ret 3 (fun n => rfl)
def Ga_hasCushion_39  (a0 : Int32) (I : zI) : Option (Int32) :=
  (BM_has (I 39 6) a0 I).bind fun x88 =>
  if x88 = 0 ∨ x88 = 1 then some x88 else none
theorem s_Ga_hasCushion_39  {a0 : Int32} {I : zI} {r : Int32} (hf : Ga_hasCushion_39 a0 I = some r) (d : Nat) (hd : 1 ≤ d) : zCall d 17 [.ref 39, .int a0] (zHp I) (some (.int r)) (zHp I) := by
  obtain ⟨d, rfl⟩ : ∃ e, d = e + 1 := ⟨d - 1, by omega⟩
  rw [Ga_hasCushion_39] at hf
  show zEv _ _ _ (0, [some (.ref 39), some (.int a0)], []) _ _ _
  obtain ⟨x88, hx, hf⟩ := Option.bind_eq_some_iff.mp hf
  refine zEv_call 4 (N := 113) (vs := [.int (I 39 6), .int a0]) (v1 := some (.int x88)) (h1 := zHp I) (L := [some (.ref 39), some (.int a0)]) (rest := []) (pc := 8) (fun n => rfl) (s_BM_has hx d (by omega)) rfl rfl ?_
  show zEv _ _ _ (8, [some (.ref 39), some (.int a0)], [.int x88]) _ _ _
  obtain ⟨hc, hf⟩ := zGd_inv hf
  cases hf
  exact zEv_rt hc 1 (fun n => rfl)
def Rw_at_44  (a0 : Int32) (I : zI) : Option (Int32) :=
  if a0 < 0 then
    some (-6)
  else
    if 12 ≤ a0 then
      some (-6)
    else
      if zIn a0 12 then
        some (I 45 (Int32.toNatClampNeg a0))
      else none
theorem s_Rw_at_44  {a0 : Int32} {I : zI} {r : Int32} (hf : Rw_at_44 a0 I = some r) (d : Nat) (hd : 0 ≤ d) : zCall d 60 [.ref 44, .int a0] (zHp I) (some (.int r)) (zHp I) := by
  rw [Rw_at_44] at hf
  show zEv _ _ _ (0, [some (.ref 44), some (.int a0)], []) _ _ _
  refine zEv_if 2 (c := a0 < 0) (f1 := (22, [some (.ref 44), some (.int a0)], [])) (f2 := (4, [some (.ref 44), some (.int a0)], [])) (h1 := zHp I) (fun n => rfl) (fun hc => ?_) (fun hc => ?_)
  · rw [if_pos hc] at hf
    cases hf
    exact zEv_ret 2 (fun n => rfl)
  · rw [if_neg hc] at hf
    refine zEv_if 5 (c := 12 ≤ a0) (f1 := (22, [some (.ref 44), some (.int a0)], [])) (f2 := (13, [some (.ref 44), some (.int a0)], [])) (h1 := zHp I) (fun n => rfl) (fun hc => ?_) (fun hc => ?_)
    · rw [if_pos hc] at hf
      cases hf
      exact zEv_ret 2 (fun n => rfl)
    · rw [if_neg hc] at hf
      obtain ⟨hc, hf⟩ := zGd_inv hf
      refine zEv_gd 4 (c := zIn a0 12) (f1 := (19, [some (.ref 44), some (.int a0)], [.int (I 45 (Int32.toNatClampNeg a0))])) (h1 := zHp I) (fun n => rfl) hc ?_
      cases hf
      exact zEv_ret 2 (fun n => rfl)
def Ga_memoryAt_39_L2 : Nat → Int32 → Int32 → zI → Option (Int32)
  | 0, _, _, _ => none
  | n + 1, v1, v2, I =>
    if 12 ≤ v2 then
      some (-6)
    else
      (Rw_at_44 v2 I).bind fun x90 =>
      if x90 = v1 then
        some v2
      else
        Ga_memoryAt_39_L2 n v1 (v2 + 1) I
theorem s_Ga_memoryAt_39_L2 (d : Nat) (hd : 1 ≤ d) : ∀ (n : Nat) {v1 : Int32} {v2 : Int32} {I : zI} {r : Int32}, Ga_memoryAt_39_L2 n v1 v2 I = some r → zEv none d 22 (2, [some (.ref 39), some (.int v1), some (.int v2)], []) (zHp I) (some (.int r)) (zHp I) := by
  obtain ⟨d, rfl⟩ : ∃ e, d = e + 1 := ⟨d - 1, by omega⟩
  intro n
  induction n with
  | zero => intros; rename_i hf; cases hf
  | succ n ih =>
    intro v1 v2 I r hf
    rw [Ga_memoryAt_39_L2] at hf
    refine zEv_if 3 (c := 12 ≤ v2) (f1 := (28, [some (.ref 39), some (.int v1), some (.int v2)], [])) (f2 := (8, [some (.ref 39), some (.int v1), some (.int v2)], [])) (h1 := zHp I) (fun n => rfl) (fun hc => ?_) (fun hc => ?_)
    · rw [if_pos hc] at hf
      cases hf
      exact zEv_ret 2 (fun n => rfl)
    · rw [if_neg hc] at hf
      obtain ⟨x90, hx, hf⟩ := Option.bind_eq_some_iff.mp hf
      refine zEv_call 4 (N := 60) (vs := [.ref 44, .int v2]) (v1 := some (.int x90)) (h1 := zHp I) (L := [some (.ref 39), some (.int v1), some (.int v2)]) (rest := []) (pc := 16) (fun n => rfl) (s_Rw_at_44 hx d (by omega)) rfl rfl ?_
      show zEv _ _ _ (16, [some (.ref 39), some (.int v1), some (.int v2)], [.int x90]) _ _ _
      refine zEv_if 2 (c := x90 = v1) (f1 := (20, [some (.ref 39), some (.int v1), some (.int v2)], [])) (f2 := (22, [some (.ref 39), some (.int v1), some (.int v2)], [])) (h1 := zHp I) (fun n => rfl) (fun hc => ?_) (fun hc => ?_)
      · rw [if_pos hc] at hf
        cases hf
        exact zEv_ret 2 (fun n => rfl)
      · rw [if_neg hc] at hf
        refine zEv_go 2 (f1 := (2, [some (.ref 39), some (.int v1), some (.int (v2 + 1))], [])) (h1 := zHp I) (fun n => rfl) ?_
        refine zEv_weak (L := [some (.ref 39), some (.int v1), some (.int (v2 + 1))]) (by exact ⟨rfl, ⟨rfl, ⟨rfl, trivial⟩⟩⟩) ?_
        exact ih hf
def Ga_memoryAt_39 (n : Nat) (a0 : Int32) (I : zI) : Option (Int32) :=
  Ga_memoryAt_39_L2 n a0 0 I
theorem s_Ga_memoryAt_39 {n : Nat} {a0 : Int32} {I : zI} {r : Int32} (hf : Ga_memoryAt_39 n a0 I = some r) (d : Nat) (hd : 1 ≤ d) : zCall d 22 [.ref 39, .int a0] (zHp I) (some (.int r)) (zHp I) := by
  obtain ⟨d, rfl⟩ : ∃ e, d = e + 1 := ⟨d - 1, by omega⟩
  rw [Ga_memoryAt_39] at hf
  show zEv _ _ _ (0, [some (.ref 39), some (.int a0), none], []) _ _ _
  refine zEv_go 2 (f1 := (2, [some (.ref 39), some (.int a0), some (.int 0)], [])) (h1 := zHp I) (fun n => rfl) ?_
  exact zEv_weak (L := [some (.ref 39), some (.int a0), some (.int 0)]) (by exact ⟨rfl, ⟨rfl, ⟨rfl, trivial⟩⟩⟩) (s_Ga_memoryAt_39_L2 (d + 1) (by omega) n hf)
def Ga_whyNotSit_39 (n : Nat) (a0 : Int32) (I : zI) : Option (Int32) :=
  (Ga_benchOf_39 a0 I).bind fun x87 =>
  (Ga_hasCushion_39 x87 I).bind fun x89 =>
  if x89 = 0 then
    (Ga_memoryAt_39 n a0 I).bind fun x91 =>
    if x91 = (-6) then
      (Ga_memoryAt_39 n (10 + x87) I).bind fun x92 =>
      if x92 = (-6) then
        some 3
      else
        some 0
    else
      some 0
  else
    some 2
theorem s_Ga_whyNotSit_39 {n : Nat} {a0 : Int32} {I : zI} {r : Int32} (hf : Ga_whyNotSit_39 n a0 I = some r) (d : Nat) (hd : 2 ≤ d) : zCall d 31 [.ref 39, .int a0] (zHp I) (some (.int r)) (zHp I) := by
  obtain ⟨d, rfl⟩ : ∃ e, d = e + 1 := ⟨d - 1, by omega⟩
  rw [Ga_whyNotSit_39] at hf
  show zEv _ _ _ (0, [some (.ref 39), some (.int a0), none], []) _ _ _
  obtain ⟨x87, hx, hf⟩ := Option.bind_eq_some_iff.mp hf
  refine zEv_call 3 (N := 18) (vs := [.ref 39, .int a0]) (v1 := some (.int x87)) (h1 := zHp I) (L := [some (.ref 39), some (.int a0), none]) (rest := []) (pc := 5) (fun n => rfl) (s_Ga_benchOf_39 hx d (by omega)) rfl rfl ?_
  show zEv _ _ _ (5, [some (.ref 39), some (.int a0), none], [.int x87]) _ _ _
  obtain ⟨x89, hx, hf⟩ := Option.bind_eq_some_iff.mp hf
  refine zEv_call 4 (N := 17) (vs := [.ref 39, .int x87]) (v1 := some (.int x89)) (h1 := zHp I) (L := [some (.ref 39), some (.int a0), some (.int x87)]) (rest := []) (pc := 11) (fun n => rfl) (s_Ga_hasCushion_39 hx d (by omega)) rfl rfl ?_
  show zEv _ _ _ (11, [some (.ref 39), some (.int a0), some (.int x87)], [.int x89]) _ _ _
  refine zEv_if 1 (c := x89 = 0) (f1 := (16, [some (.ref 39), some (.int a0), some (.int x87)], [])) (f2 := (14, [some (.ref 39), some (.int a0), some (.int x87)], [])) (h1 := zHp I) (fun n => rfl) (fun hc => ?_) (fun hc => ?_)
  · rw [if_pos hc] at hf
    obtain ⟨x91, hx, hf⟩ := Option.bind_eq_some_iff.mp hf
    refine zEv_call 3 (N := 22) (vs := [.ref 39, .int a0]) (v1 := some (.int x91)) (h1 := zHp I) (L := [some (.ref 39), some (.int a0), some (.int x87)]) (rest := []) (pc := 21) (fun n => rfl) (s_Ga_memoryAt_39 hx d (by omega)) rfl rfl ?_
    show zEv _ _ _ (21, [some (.ref 39), some (.int a0), some (.int x87)], [.int x91]) _ _ _
    refine zEv_if 2 (c := x91 = (-6)) (f1 := (26, [some (.ref 39), some (.int a0), some (.int x87)], [])) (f2 := (43, [some (.ref 39), some (.int a0), some (.int x87)], [])) (h1 := zHp I) (fun n => rfl) (fun hc => ?_) (fun hc => ?_)
    · rw [if_pos hc] at hf
      obtain ⟨x92, hx, hf⟩ := Option.bind_eq_some_iff.mp hf
      refine zEv_call 5 (N := 22) (vs := [.ref 39, .int (10 + x87)]) (v1 := some (.int x92)) (h1 := zHp I) (L := [some (.ref 39), some (.int a0), some (.int x87)]) (rest := []) (pc := 34) (fun n => rfl) (s_Ga_memoryAt_39 hx d (by omega)) rfl rfl ?_
      show zEv _ _ _ (34, [some (.ref 39), some (.int a0), some (.int x87)], [.int x92]) _ _ _
      refine zEv_if 2 (c := x92 = (-6)) (f1 := (39, [some (.ref 39), some (.int a0), some (.int x87)], [])) (f2 := (43, [some (.ref 39), some (.int a0), some (.int x87)], [])) (h1 := zHp I) (fun n => rfl) (fun hc => ?_) (fun hc => ?_)
      · rw [if_pos hc] at hf
        cases hf
        exact zEv_ret 3 (fun n => rfl)
      · rw [if_neg hc] at hf
        cases hf
        exact zEv_ret 2 (fun n => rfl)
    · rw [if_neg hc] at hf
      cases hf
      exact zEv_ret 2 (fun n => rfl)
  · rw [if_neg hc] at hf
    cases hf
    exact zEv_ret 2 (fun n => rfl)
def Ga_whyNotChange_39 (n : Nat) (a0 : Int32) (a1 : Int32) (I : zI) : Option (Int32) :=
  (Ga_memoryAt_39 n a0 I).bind fun x94 =>
  if x94 = (-6) then
    (Ga_memoryAt_39 n a1 I).bind fun x95 =>
    if x95 = (-6) then
      some 3
    else
      if a0 = a1 then
        some 4
      else
        (Ga_benchOf_39 a0 I).bind fun x96 =>
        (Ga_benchOf_39 a1 I).bind fun x97 =>
        if x96 = x97 then
          some 0
        else
          some 4
  else
    if a0 = a1 then
      some 4
    else
      (Ga_benchOf_39 a0 I).bind fun x98 =>
      (Ga_benchOf_39 a1 I).bind fun x99 =>
      if x98 = x99 then
        some 0
      else
        some 4
theorem s_Ga_whyNotChange_39 {n : Nat} {a0 : Int32} {a1 : Int32} {I : zI} {r : Int32} (hf : Ga_whyNotChange_39 n a0 a1 I = some r) (d : Nat) (hd : 2 ≤ d) : zCall d 32 [.ref 39, .int a0, .int a1] (zHp I) (some (.int r)) (zHp I) := by
  obtain ⟨d, rfl⟩ : ∃ e, d = e + 1 := ⟨d - 1, by omega⟩
  rw [Ga_whyNotChange_39] at hf
  show zEv _ _ _ (0, [some (.ref 39), some (.int a0), some (.int a1)], []) _ _ _
  obtain ⟨x94, hx, hf⟩ := Option.bind_eq_some_iff.mp hf
  refine zEv_call 3 (N := 22) (vs := [.ref 39, .int a0]) (v1 := some (.int x94)) (h1 := zHp I) (L := [some (.ref 39), some (.int a0), some (.int a1)]) (rest := []) (pc := 5) (fun n => rfl) (s_Ga_memoryAt_39 hx d (by omega)) rfl rfl ?_
  show zEv _ _ _ (5, [some (.ref 39), some (.int a0), some (.int a1)], [.int x94]) _ _ _
  refine zEv_if 2 (c := x94 = (-6)) (f1 := (10, [some (.ref 39), some (.int a0), some (.int a1)], [])) (f2 := (22, [some (.ref 39), some (.int a0), some (.int a1)], [])) (h1 := zHp I) (fun n => rfl) (fun hc => ?_) (fun hc => ?_)
  · rw [if_pos hc] at hf
    obtain ⟨x95, hx, hf⟩ := Option.bind_eq_some_iff.mp hf
    refine zEv_call 3 (N := 22) (vs := [.ref 39, .int a1]) (v1 := some (.int x95)) (h1 := zHp I) (L := [some (.ref 39), some (.int a0), some (.int a1)]) (rest := []) (pc := 15) (fun n => rfl) (s_Ga_memoryAt_39 hx d (by omega)) rfl rfl ?_
    show zEv _ _ _ (15, [some (.ref 39), some (.int a0), some (.int a1)], [.int x95]) _ _ _
    refine zEv_if 2 (c := x95 = (-6)) (f1 := (20, [some (.ref 39), some (.int a0), some (.int a1)], [])) (f2 := (22, [some (.ref 39), some (.int a0), some (.int a1)], [])) (h1 := zHp I) (fun n => rfl) (fun hc => ?_) (fun hc => ?_)
    · rw [if_pos hc] at hf
      cases hf
      exact zEv_ret 2 (fun n => rfl)
    · rw [if_neg hc] at hf
      refine zEv_if 3 (c := a0 = a1) (f1 := (40, [some (.ref 39), some (.int a0), some (.int a1)], [])) (f2 := (27, [some (.ref 39), some (.int a0), some (.int a1)], [])) (h1 := zHp I) (fun n => rfl) (fun hc => ?_) (fun hc => ?_)
      · rw [if_pos hc] at hf
        cases hf
        exact zEv_ret 3 (fun n => rfl)
      · rw [if_neg hc] at hf
        obtain ⟨x96, hx, hf⟩ := Option.bind_eq_some_iff.mp hf
        refine zEv_call 3 (N := 18) (vs := [.ref 39, .int a0]) (v1 := some (.int x96)) (h1 := zHp I) (L := [some (.ref 39), some (.int a0), some (.int a1)]) (rest := []) (pc := 32) (fun n => rfl) (s_Ga_benchOf_39 hx d (by omega)) rfl rfl ?_
        show zEv _ _ _ (32, [some (.ref 39), some (.int a0), some (.int a1)], [.int x96]) _ _ _
        obtain ⟨x97, hx, hf⟩ := Option.bind_eq_some_iff.mp hf
        refine zEv_call 3 (N := 18) (vs := [.ref 39, .int a1]) (v1 := some (.int x97)) (h1 := zHp I) (L := [some (.ref 39), some (.int a0), some (.int a1)]) (rest := [.int x96]) (pc := 37) (fun n => rfl) (s_Ga_benchOf_39 hx d (by omega)) rfl rfl ?_
        show zEv _ _ _ (37, [some (.ref 39), some (.int a0), some (.int a1)], [.int x97, .int x96]) _ _ _
        refine zEv_if 1 (c := x96 = x97) (f1 := (44, [some (.ref 39), some (.int a0), some (.int a1)], [])) (f2 := (40, [some (.ref 39), some (.int a0), some (.int a1)], [])) (h1 := zHp I) (fun n => rfl) (fun hc => ?_) (fun hc => ?_)
        · rw [if_pos hc] at hf
          cases hf
          exact zEv_ret 2 (fun n => rfl)
        · rw [if_neg hc] at hf
          cases hf
          exact zEv_ret 3 (fun n => rfl)
  · rw [if_neg hc] at hf
    refine zEv_if 3 (c := a0 = a1) (f1 := (40, [some (.ref 39), some (.int a0), some (.int a1)], [])) (f2 := (27, [some (.ref 39), some (.int a0), some (.int a1)], [])) (h1 := zHp I) (fun n => rfl) (fun hc => ?_) (fun hc => ?_)
    · rw [if_pos hc] at hf
      cases hf
      exact zEv_ret 3 (fun n => rfl)
    · rw [if_neg hc] at hf
      obtain ⟨x98, hx, hf⟩ := Option.bind_eq_some_iff.mp hf
      refine zEv_call 3 (N := 18) (vs := [.ref 39, .int a0]) (v1 := some (.int x98)) (h1 := zHp I) (L := [some (.ref 39), some (.int a0), some (.int a1)]) (rest := []) (pc := 32) (fun n => rfl) (s_Ga_benchOf_39 hx d (by omega)) rfl rfl ?_
      show zEv _ _ _ (32, [some (.ref 39), some (.int a0), some (.int a1)], [.int x98]) _ _ _
      obtain ⟨x99, hx, hf⟩ := Option.bind_eq_some_iff.mp hf
      refine zEv_call 3 (N := 18) (vs := [.ref 39, .int a1]) (v1 := some (.int x99)) (h1 := zHp I) (L := [some (.ref 39), some (.int a0), some (.int a1)]) (rest := [.int x98]) (pc := 37) (fun n => rfl) (s_Ga_benchOf_39 hx d (by omega)) rfl rfl ?_
      show zEv _ _ _ (37, [some (.ref 39), some (.int a0), some (.int a1)], [.int x99, .int x98]) _ _ _
      refine zEv_if 1 (c := x98 = x99) (f1 := (44, [some (.ref 39), some (.int a0), some (.int a1)], [])) (f2 := (40, [some (.ref 39), some (.int a0), some (.int a1)], [])) (h1 := zHp I) (fun n => rfl) (fun hc => ?_) (fun hc => ?_)
      · rw [if_pos hc] at hf
        cases hf
        exact zEv_ret 2 (fun n => rfl)
      · rw [if_neg hc] at hf
        cases hf
        exact zEv_ret 3 (fun n => rfl)
def Ga_whyNot_39 (n : Nat) (a0 : Int32) (a1 : Int32) (a2 : Int32) (I : zI) : Option (Int32) :=
  if a0 = 0 then
    (Ga_benchOf_39 a1 I).bind fun x84 =>
    (Rw_at_40 x84 I).bind fun x85 =>
    (BM_has x85 a2 I).bind fun x86 =>
    if x86 = 0 then
      some 1
    else
      some 0
  else if a0 = 1 then
    (Ga_whyNotSit_39 n a1 I).bind fun x93 =>
    some x93
  else if a0 = 2 then
    (Ga_whyNotChange_39 n a1 a2 I).bind fun x100 =>
    some x100
  else if a0 = 3 then
    (Ga_memoryAt_39 n a1 I).bind fun x101 =>
    if x101 = (-6) then
      some 3
    else
      some 0
  else if a0 = 4 then
    some 0
  else if a0 = 5 then
    if (I 39 7) < 99 then
      some 0
    else
      some 5
  else
    some 0
theorem s_Ga_whyNot_39 {n : Nat} {a0 : Int32} {a1 : Int32} {a2 : Int32} {I : zI} {r : Int32} (hf : Ga_whyNot_39 n a0 a1 a2 I = some r) (d : Nat) (hd : 3 ≤ d) : zCall d 30 [.ref 39, .int a0, .int a1, .int a2] (zHp I) (some (.int r)) (zHp I) := by
  obtain ⟨d, rfl⟩ : ∃ e, d = e + 1 := ⟨d - 1, by omega⟩
  rw [Ga_whyNot_39] at hf
  show zEv _ _ _ (0, [some (.ref 39), some (.int a0), some (.int a1), some (.int a2)], []) _ _ _
  refine zEv_go 1 (f1 := (1, [some (.ref 39), some (.int a0), some (.int a1), some (.int a2)], [.int a0])) (h1 := zHp I) (fun n => rfl) ?_
  by_cases hc0 : a0 = 0
  · rw [if_pos hc0] at hf
    refine zEv_tsk (off := 39) (t := 40) 0 (by rfl) hc0 (by decide) rfl rfl ?_
    obtain ⟨x84, hx, hf⟩ := Option.bind_eq_some_iff.mp hf
    refine zEv_call 5 (N := 18) (vs := [.ref 39, .int a1]) (v1 := some (.int x84)) (h1 := zHp I) (L := [some (.ref 39), some (.int a0), some (.int a1), some (.int a2)]) (rest := [.ref 40]) (pc := 49) (fun n => rfl) (s_Ga_benchOf_39 hx d (by omega)) rfl rfl ?_
    show zEv _ _ _ (49, [some (.ref 39), some (.int a0), some (.int a1), some (.int a2)], [.int x84, .ref 40]) _ _ _
    obtain ⟨x85, hx, hf⟩ := Option.bind_eq_some_iff.mp hf
    refine zEv_call 1 (N := 60) (vs := [.ref 40, .int x84]) (v1 := some (.int x85)) (h1 := zHp I) (L := [some (.ref 39), some (.int a0), some (.int a1), some (.int a2)]) (rest := []) (pc := 52) (fun n => rfl) (s_Rw_at_40 hx d (by omega)) rfl rfl ?_
    show zEv _ _ _ (52, [some (.ref 39), some (.int a0), some (.int a1), some (.int a2)], [.int x85]) _ _ _
    obtain ⟨x86, hx, hf⟩ := Option.bind_eq_some_iff.mp hf
    refine zEv_call 2 (N := 113) (vs := [.int x85, .int a2]) (v1 := some (.int x86)) (h1 := zHp I) (L := [some (.ref 39), some (.int a0), some (.int a1), some (.int a2)]) (rest := []) (pc := 56) (fun n => rfl) (s_BM_has hx d (by omega)) rfl rfl ?_
    show zEv _ _ _ (56, [some (.ref 39), some (.int a0), some (.int a1), some (.int a2)], [.int x86]) _ _ _
    refine zEv_if 1 (c := x86 = 0) (f1 := (63, [some (.ref 39), some (.int a0), some (.int a1), some (.int a2)], [])) (f2 := (59, [some (.ref 39), some (.int a0), some (.int a1), some (.int a2)], [])) (h1 := zHp I) (fun n => rfl) (fun hc => ?_) (fun hc => ?_)
    · rw [if_pos hc] at hf
      cases hf
      exact zEv_ret 2 (fun n => rfl)
    · rw [if_neg hc] at hf
      cases hf
      exact zEv_ret 3 (fun n => rfl)
  rw [if_neg hc0] at hf
  by_cases hc1 : a0 = 1
  · rw [if_pos hc1] at hf
    refine zEv_tsk (off := 64) (t := 65) 1 (by rfl) hc1 (by decide) rfl rfl ?_
    obtain ⟨x93, hx, hf⟩ := Option.bind_eq_some_iff.mp hf
    refine zEv_call 3 (N := 31) (vs := [.ref 39, .int a1]) (v1 := some (.int x93)) (h1 := zHp I) (L := [some (.ref 39), some (.int a0), some (.int a1), some (.int a2)]) (rest := []) (pc := 70) (fun n => rfl) (s_Ga_whyNotSit_39 hx d (by omega)) rfl rfl ?_
    show zEv _ _ _ (70, [some (.ref 39), some (.int a0), some (.int a1), some (.int a2)], [.int x93]) _ _ _
    cases hf
    exact zEv_ret 1 (fun n => rfl)
  rw [if_neg hc1] at hf
  by_cases hc2 : a0 = 2
  · rw [if_pos hc2] at hf
    refine zEv_tsk (off := 70) (t := 71) 2 (by rfl) hc2 (by decide) rfl rfl ?_
    obtain ⟨x100, hx, hf⟩ := Option.bind_eq_some_iff.mp hf
    refine zEv_call 4 (N := 32) (vs := [.ref 39, .int a1, .int a2]) (v1 := some (.int x100)) (h1 := zHp I) (L := [some (.ref 39), some (.int a0), some (.int a1), some (.int a2)]) (rest := []) (pc := 77) (fun n => rfl) (s_Ga_whyNotChange_39 hx d (by omega)) rfl rfl ?_
    show zEv _ _ _ (77, [some (.ref 39), some (.int a0), some (.int a1), some (.int a2)], [.int x100]) _ _ _
    cases hf
    exact zEv_ret 1 (fun n => rfl)
  rw [if_neg hc2] at hf
  by_cases hc3 : a0 = 3
  · rw [if_pos hc3] at hf
    refine zEv_tsk (off := 77) (t := 78) 3 (by rfl) hc3 (by decide) rfl rfl ?_
    obtain ⟨x101, hx, hf⟩ := Option.bind_eq_some_iff.mp hf
    refine zEv_call 3 (N := 22) (vs := [.ref 39, .int a1]) (v1 := some (.int x101)) (h1 := zHp I) (L := [some (.ref 39), some (.int a0), some (.int a1), some (.int a2)]) (rest := []) (pc := 83) (fun n => rfl) (s_Ga_memoryAt_39 hx d (by omega)) rfl rfl ?_
    show zEv _ _ _ (83, [some (.ref 39), some (.int a0), some (.int a1), some (.int a2)], [.int x101]) _ _ _
    refine zEv_if 2 (c := x101 = (-6)) (f1 := (88, [some (.ref 39), some (.int a0), some (.int a1), some (.int a2)], [])) (f2 := (92, [some (.ref 39), some (.int a0), some (.int a1), some (.int a2)], [])) (h1 := zHp I) (fun n => rfl) (fun hc => ?_) (fun hc => ?_)
    · rw [if_pos hc] at hf
      cases hf
      exact zEv_ret 3 (fun n => rfl)
    · rw [if_neg hc] at hf
      cases hf
      exact zEv_ret 2 (fun n => rfl)
  rw [if_neg hc3] at hf
  by_cases hc4 : a0 = 4
  · rw [if_pos hc4] at hf
    refine zEv_tsk (off := 108) (t := 109) 4 (by rfl) hc4 (by decide) rfl rfl ?_
    cases hf
    exact zEv_ret 2 (fun n => rfl)
  rw [if_neg hc4] at hf
  by_cases hc5 : a0 = 5
  · rw [if_pos hc5] at hf
    refine zEv_tsk (off := 93) (t := 94) 5 (by rfl) hc5 (by decide) rfl rfl ?_
    refine zEv_if 4 (c := (I 39 7) < 99) (f1 := (107, [some (.ref 39), some (.int a0), some (.int a1), some (.int a2)], [])) (f2 := (103, [some (.ref 39), some (.int a0), some (.int a1), some (.int a2)], [])) (h1 := zHp I) (fun n => rfl) (fun hc => ?_) (fun hc => ?_)
    · rw [if_pos hc] at hf
      cases hf
      exact zEv_ret 2 (fun n => rfl)
    · rw [if_neg hc] at hf
      cases hf
      exact zEv_ret 3 (fun n => rfl)
  rw [if_neg hc5] at hf
  have hn0 := zNt (k := 0) hc0 (by decide)
  have hn1 := zNt (k := 1) hc1 (by decide)
  have hn2 := zNt (k := 2) hc2 (by decide)
  have hn3 := zNt (k := 3) hc3 (by decide)
  have hn4 := zNt (k := 4) hc4 (by decide)
  have hn5 := zNt (k := 5) hc5 (by decide)
  refine zEv_tsd (t := 109) (by rfl) (by omega) rfl ?_
  cases hf
  exact zEv_ret 2 (fun n => rfl)
def Rw_put_42  (a0 : Int32) (a1 : Int32) (I : zI) : Option (zI) :=
  if a0 < 0 then
    some I
  else
    if 8 ≤ a0 then
      some I
    else
      if zIn a0 8 then
        some (zUp I 43 (Int32.toNatClampNeg a0) a1)
      else none
theorem s_Rw_put_42  {a0 : Int32} {a1 : Int32} {I : zI} {I' : zI} (hf : Rw_put_42 a0 a1 I = some I') (d : Nat) (hd : 0 ≤ d) : zCall d 61 [.ref 42, .int a0, .int a1] (zHp I) (none) (zHp I') := by
  rw [Rw_put_42] at hf
  show zEv _ _ _ (0, [some (.ref 42), some (.int a0), some (.int a1)], []) _ _ _
  refine zEv_if 2 (c := a0 < 0) (f1 := (20, [some (.ref 42), some (.int a0), some (.int a1)], [])) (f2 := (4, [some (.ref 42), some (.int a0), some (.int a1)], [])) (h1 := zHp I) (fun n => rfl) (fun hc => ?_) (fun hc => ?_)
  · rw [if_pos hc] at hf
    cases hf
    exact zEv_ret 1 (fun n => rfl)
  · rw [if_neg hc] at hf
    refine zEv_if 5 (c := 8 ≤ a0) (f1 := (20, [some (.ref 42), some (.int a0), some (.int a1)], [])) (f2 := (13, [some (.ref 42), some (.int a0), some (.int a1)], [])) (h1 := zHp I) (fun n => rfl) (fun hc => ?_) (fun hc => ?_)
    · rw [if_pos hc] at hf
      cases hf
      exact zEv_ret 1 (fun n => rfl)
    · rw [if_neg hc] at hf
      obtain ⟨hc, hf⟩ := zGd_inv hf
      refine zEv_gd 5 (c := zIn a0 8) (f1 := (20, [some (.ref 42), some (.int a0), some (.int a1)], [])) (h1 := zHp (zUp I 43 (Int32.toNatClampNeg a0) a1)) (fun n => rfl) hc ?_
      cases hf
      exact zEv_ret 1 (fun n => rfl)
def Ga_standAt_39  (a0 : Int32) (a1 : Int32) (I : zI) : Option (zI) :=
  (Rw_put_42 a0 a1 I).bind fun I103 =>
  some I103
theorem s_Ga_standAt_39  {a0 : Int32} {a1 : Int32} {I : zI} {I' : zI} (hf : Ga_standAt_39 a0 a1 I = some I') (d : Nat) (hd : 1 ≤ d) : zCall d 24 [.ref 39, .int a0, .int a1] (zHp I) (none) (zHp I') := by
  obtain ⟨d, rfl⟩ : ∃ e, d = e + 1 := ⟨d - 1, by omega⟩
  rw [Ga_standAt_39] at hf
  show zEv _ _ _ (0, [some (.ref 39), some (.int a0), some (.int a1)], []) _ _ _
  obtain ⟨I103, hx, hf⟩ := Option.bind_eq_some_iff.mp hf
  refine zEv_call 5 (N := 61) (vs := [.ref 42, .int a0, .int a1]) (v1 := none) (h1 := zHp I103) (L := [some (.ref 39), some (.int a0), some (.int a1)]) (rest := []) (pc := 9) (fun n => rfl) (s_Rw_put_42 hx d (by omega)) rfl rfl ?_
  show zEv _ _ _ (9, [some (.ref 39), some (.int a0), some (.int a1)], []) _ _ _
  cases hf
  exact zEv_ret 1 (fun n => rfl)
def Rw_put_44  (a0 : Int32) (a1 : Int32) (I : zI) : Option (zI) :=
  if a0 < 0 then
    some I
  else
    if 12 ≤ a0 then
      some I
    else
      if zIn a0 12 then
        some (zUp I 45 (Int32.toNatClampNeg a0) a1)
      else none
theorem s_Rw_put_44  {a0 : Int32} {a1 : Int32} {I : zI} {I' : zI} (hf : Rw_put_44 a0 a1 I = some I') (d : Nat) (hd : 0 ≤ d) : zCall d 61 [.ref 44, .int a0, .int a1] (zHp I) (none) (zHp I') := by
  rw [Rw_put_44] at hf
  show zEv _ _ _ (0, [some (.ref 44), some (.int a0), some (.int a1)], []) _ _ _
  refine zEv_if 2 (c := a0 < 0) (f1 := (20, [some (.ref 44), some (.int a0), some (.int a1)], [])) (f2 := (4, [some (.ref 44), some (.int a0), some (.int a1)], [])) (h1 := zHp I) (fun n => rfl) (fun hc => ?_) (fun hc => ?_)
  · rw [if_pos hc] at hf
    cases hf
    exact zEv_ret 1 (fun n => rfl)
  · rw [if_neg hc] at hf
    refine zEv_if 5 (c := 12 ≤ a0) (f1 := (20, [some (.ref 44), some (.int a0), some (.int a1)], [])) (f2 := (13, [some (.ref 44), some (.int a0), some (.int a1)], [])) (h1 := zHp I) (fun n => rfl) (fun hc => ?_) (fun hc => ?_)
    · rw [if_pos hc] at hf
      cases hf
      exact zEv_ret 1 (fun n => rfl)
    · rw [if_neg hc] at hf
      obtain ⟨hc, hf⟩ := zGd_inv hf
      refine zEv_gd 5 (c := zIn a0 12) (f1 := (20, [some (.ref 44), some (.int a0), some (.int a1)], [])) (h1 := zHp (zUp I 45 (Int32.toNatClampNeg a0) a1)) (fun n => rfl) hc ?_
      cases hf
      exact zEv_ret 1 (fun n => rfl)
def Rw_put_46  (a0 : Int32) (a1 : Int32) (I : zI) : Option (zI) :=
  if a0 < 0 then
    some I
  else
    if 12 ≤ a0 then
      some I
    else
      if zIn a0 12 then
        some (zUp I 47 (Int32.toNatClampNeg a0) a1)
      else none
theorem s_Rw_put_46  {a0 : Int32} {a1 : Int32} {I : zI} {I' : zI} (hf : Rw_put_46 a0 a1 I = some I') (d : Nat) (hd : 0 ≤ d) : zCall d 61 [.ref 46, .int a0, .int a1] (zHp I) (none) (zHp I') := by
  rw [Rw_put_46] at hf
  show zEv _ _ _ (0, [some (.ref 46), some (.int a0), some (.int a1)], []) _ _ _
  refine zEv_if 2 (c := a0 < 0) (f1 := (20, [some (.ref 46), some (.int a0), some (.int a1)], [])) (f2 := (4, [some (.ref 46), some (.int a0), some (.int a1)], [])) (h1 := zHp I) (fun n => rfl) (fun hc => ?_) (fun hc => ?_)
  · rw [if_pos hc] at hf
    cases hf
    exact zEv_ret 1 (fun n => rfl)
  · rw [if_neg hc] at hf
    refine zEv_if 5 (c := 12 ≤ a0) (f1 := (20, [some (.ref 46), some (.int a0), some (.int a1)], [])) (f2 := (13, [some (.ref 46), some (.int a0), some (.int a1)], [])) (h1 := zHp I) (fun n => rfl) (fun hc => ?_) (fun hc => ?_)
    · rw [if_pos hc] at hf
      cases hf
      exact zEv_ret 1 (fun n => rfl)
    · rw [if_neg hc] at hf
      obtain ⟨hc, hf⟩ := zGd_inv hf
      refine zEv_gd 5 (c := zIn a0 12) (f1 := (20, [some (.ref 46), some (.int a0), some (.int a1)], [])) (h1 := zHp (zUp I 47 (Int32.toNatClampNeg a0) a1)) (fun n => rfl) hc ?_
      cases hf
      exact zEv_ret 1 (fun n => rfl)
def Ga_putOn_39  (a0 : Int32) (a1 : Int32) (a2 : Int32) (I : zI) : Option (zI) :=
  (Rw_put_44 a0 (10 + a1) I).bind fun I109 =>
  (Rw_put_46 a0 a2 I109).bind fun I110 =>
  some I110
theorem s_Ga_putOn_39  {a0 : Int32} {a1 : Int32} {a2 : Int32} {I : zI} {I' : zI} (hf : Ga_putOn_39 a0 a1 a2 I = some I') (d : Nat) (hd : 1 ≤ d) : zCall d 27 [.ref 39, .int a0, .int a1, .int a2] (zHp I) (none) (zHp I') := by
  obtain ⟨d, rfl⟩ : ∃ e, d = e + 1 := ⟨d - 1, by omega⟩
  rw [Ga_putOn_39] at hf
  show zEv _ _ _ (0, [some (.ref 39), some (.int a0), some (.int a1), some (.int a2)], []) _ _ _
  obtain ⟨I109, hx, hf⟩ := Option.bind_eq_some_iff.mp hf
  refine zEv_call 7 (N := 61) (vs := [.ref 44, .int a0, .int (10 + a1)]) (v1 := none) (h1 := zHp I109) (L := [some (.ref 39), some (.int a0), some (.int a1), some (.int a2)]) (rest := []) (pc := 12) (fun n => rfl) (s_Rw_put_44 hx d (by omega)) rfl rfl ?_
  show zEv _ _ _ (12, [some (.ref 39), some (.int a0), some (.int a1), some (.int a2)], []) _ _ _
  obtain ⟨I110, hx, hf⟩ := Option.bind_eq_some_iff.mp hf
  refine zEv_call 5 (N := 61) (vs := [.ref 46, .int a0, .int a2]) (v1 := none) (h1 := zHp I110) (L := [some (.ref 39), some (.int a0), some (.int a1), some (.int a2)]) (rest := []) (pc := 21) (fun n => rfl) (s_Rw_put_46 hx d (by omega)) rfl rfl ?_
  show zEv _ _ _ (21, [some (.ref 39), some (.int a0), some (.int a1), some (.int a2)], []) _ _ _
  cases hf
  exact zEv_ret 1 (fun n => rfl)
def Ga_putWith_39  (a0 : Int32) (a1 : Int32) (I : zI) : Option (zI) :=
  (Rw_put_44 a0 a1 I).bind fun I113 =>
  some I113
theorem s_Ga_putWith_39  {a0 : Int32} {a1 : Int32} {I : zI} {I' : zI} (hf : Ga_putWith_39 a0 a1 I = some I') (d : Nat) (hd : 1 ≤ d) : zCall d 25 [.ref 39, .int a0, .int a1] (zHp I) (none) (zHp I') := by
  obtain ⟨d, rfl⟩ : ∃ e, d = e + 1 := ⟨d - 1, by omega⟩
  rw [Ga_putWith_39] at hf
  show zEv _ _ _ (0, [some (.ref 39), some (.int a0), some (.int a1)], []) _ _ _
  obtain ⟨I113, hx, hf⟩ := Option.bind_eq_some_iff.mp hf
  refine zEv_call 5 (N := 61) (vs := [.ref 44, .int a0, .int a1]) (v1 := none) (h1 := zHp I113) (L := [some (.ref 39), some (.int a0), some (.int a1)]) (rest := []) (pc := 9) (fun n => rfl) (s_Rw_put_44 hx d (by omega)) rfl rfl ?_
  show zEv _ _ _ (9, [some (.ref 39), some (.int a0), some (.int a1)], []) _ _ _
  cases hf
  exact zEv_ret 1 (fun n => rfl)
def Ga_sitDown_39 (n : Nat) (a0 : Int32) (I : zI) : Option (zI) :=
  (Ga_benchOf_39 a0 I).bind fun x105 =>
  (Ga_memoryAt_39 n a0 I).bind fun x106 =>
  (Ga_memoryAt_39 n (10 + x105) I).bind fun x107 =>
  (
    if x106 = (-6) then
      some I
    else
      (Ga_putOn_39 x106 x105 9 I).bind fun I111 =>
      some I111 : Option (zI)).bind fun I112 =>
  if x107 = (-6) then
    some I112
  else
    (Ga_putWith_39 x107 a0 I112).bind fun I114 =>
    some I114
theorem s_Ga_sitDown_39 {n : Nat} {a0 : Int32} {I : zI} {I' : zI} (hf : Ga_sitDown_39 n a0 I = some I') (d : Nat) (hd : 2 ≤ d) : zCall d 34 [.ref 39, .int a0] (zHp I) (none) (zHp I') := by
  obtain ⟨d, rfl⟩ : ∃ e, d = e + 1 := ⟨d - 1, by omega⟩
  rw [Ga_sitDown_39] at hf
  show zEv _ _ _ (0, [some (.ref 39), some (.int a0), none, none, none], []) _ _ _
  obtain ⟨x105, hx, hf⟩ := Option.bind_eq_some_iff.mp hf
  refine zEv_call 3 (N := 18) (vs := [.ref 39, .int a0]) (v1 := some (.int x105)) (h1 := zHp I) (L := [some (.ref 39), some (.int a0), none, none, none]) (rest := []) (pc := 5) (fun n => rfl) (s_Ga_benchOf_39 hx d (by omega)) rfl rfl ?_
  show zEv _ _ _ (5, [some (.ref 39), some (.int a0), none, none, none], [.int x105]) _ _ _
  obtain ⟨x106, hx, hf⟩ := Option.bind_eq_some_iff.mp hf
  refine zEv_call 4 (N := 22) (vs := [.ref 39, .int a0]) (v1 := some (.int x106)) (h1 := zHp I) (L := [some (.ref 39), some (.int a0), some (.int x105), none, none]) (rest := []) (pc := 11) (fun n => rfl) (s_Ga_memoryAt_39 hx d (by omega)) rfl rfl ?_
  show zEv _ _ _ (11, [some (.ref 39), some (.int a0), some (.int x105), none, none], [.int x106]) _ _ _
  obtain ⟨x107, hx, hf⟩ := Option.bind_eq_some_iff.mp hf
  refine zEv_call 6 (N := 22) (vs := [.ref 39, .int (10 + x105)]) (v1 := some (.int x107)) (h1 := zHp I) (L := [some (.ref 39), some (.int a0), some (.int x105), some (.int x106), none]) (rest := []) (pc := 20) (fun n => rfl) (s_Ga_memoryAt_39 hx d (by omega)) rfl rfl ?_
  show zEv _ _ _ (20, [some (.ref 39), some (.int a0), some (.int x105), some (.int x106), none], [.int x107]) _ _ _
  obtain ⟨I112, hm_m108, hf⟩ := Option.bind_eq_some_iff.mp hf
  have hJ_m108 : zEv none (d + 1) 34 (36, [some (.ref 39), some (.int a0), none, none, some (.int x107)], []) (zHp I112) (none) (zHp I') := by
    refine zEv_if 3 (c := x107 = (-6)) (f1 := (50, [some (.ref 39), some (.int a0), none, none, some (.int x107)], [])) (f2 := (43, [some (.ref 39), some (.int a0), none, none, some (.int x107)], [])) (h1 := zHp I112) (fun n => rfl) (fun hc => ?_) (fun hc => ?_)
    · rw [if_pos hc] at hf
      cases hf
      exact zEv_ret 1 (fun n => rfl)
    · rw [if_neg hc] at hf
      obtain ⟨I114, hx, hf⟩ := Option.bind_eq_some_iff.mp hf
      refine zEv_call 4 (N := 25) (vs := [.ref 39, .int x107, .int a0]) (v1 := none) (h1 := zHp I114) (L := [some (.ref 39), some (.int a0), none, none, some (.int x107)]) (rest := []) (pc := 50) (fun n => rfl) (s_Ga_putWith_39 hx d (by omega)) rfl rfl ?_
      show zEv _ _ _ (50, [some (.ref 39), some (.int a0), none, none, some (.int x107)], []) _ _ _
      cases hf
      exact zEv_ret 1 (fun n => rfl)
  clear hf
  refine zEv_if 4 (c := x106 = (-6)) (f1 := (36, [some (.ref 39), some (.int a0), some (.int x105), some (.int x106), some (.int x107)], [])) (f2 := (28, [some (.ref 39), some (.int a0), some (.int x105), some (.int x106), some (.int x107)], [])) (h1 := zHp I) (fun n => rfl) (fun hc => ?_) (fun hc => ?_)
  · rw [if_pos hc] at hm_m108
    obtain rfl := Option.some.inj hm_m108
    exact zEv_weak (L := [some (.ref 39), some (.int a0), none, none, some (.int x107)]) (by exact ⟨rfl, ⟨rfl, ⟨rfl, ⟨rfl, ⟨rfl, trivial⟩⟩⟩⟩⟩) hJ_m108
  · rw [if_neg hc] at hm_m108
    obtain ⟨I111, hx, hm_m108⟩ := Option.bind_eq_some_iff.mp hm_m108
    refine zEv_call 5 (N := 27) (vs := [.ref 39, .int x106, .int x105, .int 9]) (v1 := none) (h1 := zHp I111) (L := [some (.ref 39), some (.int a0), some (.int x105), some (.int x106), some (.int x107)]) (rest := []) (pc := 36) (fun n => rfl) (s_Ga_putOn_39 hx d (by omega)) rfl rfl ?_
    show zEv _ _ _ (36, [some (.ref 39), some (.int a0), some (.int x105), some (.int x106), some (.int x107)], []) _ _ _
    obtain rfl := Option.some.inj hm_m108
    exact zEv_weak (L := [some (.ref 39), some (.int a0), none, none, some (.int x107)]) (by exact ⟨rfl, ⟨rfl, ⟨rfl, ⟨rfl, ⟨rfl, trivial⟩⟩⟩⟩⟩) hJ_m108
