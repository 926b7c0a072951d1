def BM_hands (n : Nat) (a0 : Int32) (a1 : Int32) (I : zI) : Option (Int32 × zI) :=
  (BM_isMemory a0 I).bind fun x169 =>
  if x169 = 0 then
    some ((-1), I)
  else
    (BM_isWithin a1 0 1 I).bind fun x170 =>
    if x170 = 0 then
      some ((-2), I)
    else
      (Co_tryOut_2_35 n I).bind fun (x171, I172) =>
      if x171 = 0 then
        if a1 = 0 then
          (Rw_at_50 a0 I172).bind fun x173 =>
          some (x173, I172)
        else
          (Ga_placeOf_39 a0 I172).bind fun x175 =>
          (BM_isOne x175 I172).bind fun x176 =>
          if x176 = 0 then
            some ((-6), I172)
          else
            some (x175, I172)
      else
        some (x171, I172)
theorem s_BM_hands {n : Nat} {a0 : Int32} {a1 : Int32} {I : zI} {r : Int32} {I' : zI} (hf : BM_hands n a0 a1 I = some (r, I')) (d : Nat) (hd : 6 ≤ d) : zCall d 90 [.ref 1, .int a0, .int a1] (zHp I) (some (.int r)) (zHp I') := by
  obtain ⟨d, rfl⟩ : ∃ e, d = e + 1 := ⟨d - 1, by omega⟩
  rw [BM_hands] at hf
  show zEv _ _ _ (0, [some (.ref 1), some (.int a0), some (.int a1), none, none], []) _ _ _
  obtain ⟨x169, hx, hf⟩ := Option.bind_eq_some_iff.mp hf
  refine zEv_call 2 (N := 112) (vs := [.int a0]) (v1 := some (.int x169)) (h1 := zHp I) (L := [some (.ref 1), some (.int a0), some (.int a1), none, none]) (rest := []) (pc := 4) (fun n => rfl) (s_BM_isMemory hx d (by omega)) rfl rfl ?_
  show zEv _ _ _ (4, [some (.ref 1), some (.int a0), some (.int a1), none, none], [.int x169]) _ _ _
  refine zEv_if 1 (c := x169 = 0) (f1 := (7, [some (.ref 1), some (.int a0), some (.int a1), none, none], [])) (f2 := (9, [some (.ref 1), some (.int a0), some (.int a1), none, none], [])) (h1 := zHp I) (fun n => rfl) (fun hc => ?_) (fun hc => ?_)
  · rw [if_pos hc] at hf
    cases hf
    exact zEv_ret 2 (fun n => rfl)
  · rw [if_neg hc] at hf
    obtain ⟨x170, hx, hf⟩ := Option.bind_eq_some_iff.mp hf
    refine zEv_call 4 (N := 109) (vs := [.int a1, .int 0, .int 1]) (v1 := some (.int x170)) (h1 := zHp I) (L := [some (.ref 1), some (.int a0), some (.int a1), none, none]) (rest := []) (pc := 15) (fun n => rfl) (s_BM_isWithin hx d (by omega)) rfl rfl ?_
    show zEv _ _ _ (15, [some (.ref 1), some (.int a0), some (.int a1), none, none], [.int x170]) _ _ _
    refine zEv_if 1 (c := x170 = 0) (f1 := (18, [some (.ref 1), some (.int a0), some (.int a1), none, none], [])) (f2 := (21, [some (.ref 1), some (.int a0), some (.int a1), none, none], [])) (h1 := zHp I) (fun n => rfl) (fun hc => ?_) (fun hc => ?_)
    · rw [if_pos hc] at hf
      cases hf
      exact zEv_ret 2 (fun n => rfl)
    · rw [if_neg hc] at hf
      obtain ⟨⟨x171, I172⟩, hx, hf⟩ := Option.bind_eq_some_iff.mp hf
      dsimp only at hf
      refine zEv_call 7 (N := 1) (vs := [.ref 38, .ref 2, .ref 35]) (v1 := some (.int x171)) (h1 := zHp I172) (L := [some (.ref 1), some (.int a0), some (.int a1), none, none]) (rest := []) (pc := 36) (fun n => rfl) (s_Co_tryOut_2_35 hx d (by omega)) rfl rfl ?_
      show zEv _ _ _ (36, [some (.ref 1), some (.int a0), some (.int a1), none, none], [.int x171]) _ _ _
      refine zEv_if 3 (c := x171 = 0) (f1 := (43, [some (.ref 1), some (.int a0), some (.int a1), some (.int x171), none], [])) (f2 := (41, [some (.ref 1), some (.int a0), some (.int a1), some (.int x171), none], [])) (h1 := zHp I172) (fun n => rfl) (fun hc => ?_) (fun hc => ?_)
      · rw [if_pos hc] at hf
        refine zEv_if 2 (c := a1 = 0) (f1 := (47, [some (.ref 1), some (.int a0), some (.int a1), some (.int x171), none], [])) (f2 := (59, [some (.ref 1), some (.int a0), some (.int a1), some (.int x171), none], [])) (h1 := zHp I172) (fun n => rfl) (fun hc => ?_) (fun hc => ?_)
        · rw [if_pos hc] at hf
          obtain ⟨x173, hx, hf⟩ := Option.bind_eq_some_iff.mp hf
          refine zEv_call 5 (N := 60) (vs := [.ref 50, .int a0]) (v1 := some (.int x173)) (h1 := zHp I172) (L := [some (.ref 1), some (.int a0), some (.int a1), some (.int x171), none]) (rest := []) (pc := 58) (fun n => rfl) (s_Rw_at_50 hx d (by omega)) rfl rfl ?_
          show zEv _ _ _ (58, [some (.ref 1), some (.int a0), some (.int a1), some (.int x171), none], [.int x173]) _ _ _
          cases hf
          exact zEv_ret 1 (fun n => rfl)
        · rw [if_neg hc] at hf
          obtain ⟨x175, hx, hf⟩ := Option.bind_eq_some_iff.mp hf
          refine zEv_call 5 (N := 19) (vs := [.ref 39, .int a0]) (v1 := some (.int x175)) (h1 := zHp I172) (L := [some (.ref 1), some (.int a0), some (.int a1), some (.int x171), none]) (rest := []) (pc := 70) (fun n => rfl) (s_Ga_placeOf_39 hx d (by omega)) rfl rfl ?_
          show zEv _ _ _ (70, [some (.ref 1), some (.int a0), some (.int a1), some (.int x171), none], [.int x175]) _ _ _
          obtain ⟨x176, hx, hf⟩ := Option.bind_eq_some_iff.mp hf
          refine zEv_call 3 (N := 111) (vs := [.int x175]) (v1 := some (.int x176)) (h1 := zHp I172) (L := [some (.ref 1), some (.int a0), some (.int a1), some (.int x171), some (.int x175)]) (rest := []) (pc := 77) (fun n => rfl) (s_BM_isOne hx d (by omega)) rfl rfl ?_
          show zEv _ _ _ (77, [some (.ref 1), some (.int a0), some (.int a1), some (.int x171), some (.int x175)], [.int x176]) _ _ _
          refine zEv_if 1 (c := x176 = 0) (f1 := (85, [some (.ref 1), some (.int a0), some (.int a1), some (.int x171), some (.int x175)], [])) (f2 := (80, [some (.ref 1), some (.int a0), some (.int a1), some (.int x171), some (.int x175)], [])) (h1 := zHp I172) (fun n => rfl) (fun hc => ?_) (fun hc => ?_)
          · rw [if_pos hc] at hf
            cases hf
            exact zEv_ret 2 (fun n => rfl)
          · rw [if_neg hc] at hf
            cases hf
            exact zEv_ret 3 (fun n => rfl)
      · rw [if_neg hc] at hf
        cases hf
        exact zEv_ret 2 (fun n => rfl)
def Co_mostHanded_L7 : Nat → Int32 → Int32 → Int32 → zI → Option (Int32)
  | 0, _, _, _, _ => none
  | n + 1, v1, v2, v3, I =>
    if 12 ≤ v3 then
      some v1
    else
      (Rw_at_50 v3 I).bind fun x179 =>
      (
        if x179 ≤ v2 then
          some (v1, v2)
        else
          (Rw_at_50 v3 I).bind fun x181 =>
          some (v3, x181) : Option (Int32 × Int32)).bind fun (x182, x183) =>
      Co_mostHanded_L7 n x182 x183 (v3 + 1) I
theorem s_Co_mostHanded_L7 (d : Nat) (hd : 1 ≤ d) : ∀ (n : Nat) {v1 : Int32} {v2 : Int32} {v3 : Int32} {I : zI} {y1 : Int32} {v : Option Value} {h' : zH}, Co_mostHanded_L7 n v1 v2 v3 I = some y1 → zEv none d 5 (42, [some (.ref 38), some (.int y1), none, none], []) (zHp I) v h' → zEv none d 5 (7, [some (.ref 38), some (.int v1), some (.int v2), some (.int v3)], []) (zHp I) v h' := by
  obtain ⟨d, rfl⟩ : ∃ e, d = e + 1 := ⟨d - 1, by omega⟩
  intro n
  induction n with
  | zero => intros; rename_i hf _; cases hf
  | succ n ih =>
    intro v1 v2 v3 I y1 v h' hf kk
    rw [Co_mostHanded_L7] at hf
    refine zEv_if 3 (c := 12 ≤ v3) (f1 := (42, [some (.ref 38), some (.int v1), some (.int v2), some (.int v3)], [])) (f2 := (13, [some (.ref 38), some (.int v1), some (.int v2), some (.int v3)], [])) (h1 := zHp I) (fun n => rfl) (fun hc => ?_) (fun hc => ?_)
    · rw [if_pos hc] at hf
      obtain rfl := Option.some.inj hf
      exact zEv_weak (L := [some (.ref 38), some (.int v1), none, none]) (by exact ⟨rfl, ⟨rfl, ⟨rfl, ⟨rfl, trivial⟩⟩⟩⟩) kk
    · rw [if_neg hc] at hf
      obtain ⟨x179, hx, hf⟩ := Option.bind_eq_some_iff.mp hf
      refine zEv_call 4 (N := 60) (vs := [.ref 50, .int v3]) (v1 := some (.int x179)) (h1 := zHp I) (L := [some (.ref 38), some (.int v1), some (.int v2), some (.int v3)]) (rest := []) (pc := 21) (fun n => rfl) (s_Rw_at_50 hx d (by omega)) rfl rfl ?_
      show zEv _ _ _ (21, [some (.ref 38), some (.int v1), some (.int v2), some (.int v3)], [.int x179]) _ _ _
      obtain ⟨⟨x182, x183⟩, hm_m180, hf⟩ := Option.bind_eq_some_iff.mp hf
      dsimp only at hf
      have hJ_m180 : zEv none (d + 1) 5 (36, [some (.ref 38), some (.int x182), some (.int x183), some (.int v3)], []) (zHp I) v h' := by
        refine zEv_go 2 (f1 := (7, [some (.ref 38), some (.int x182), some (.int x183), some (.int (v3 + 1))], [])) (h1 := zHp I) (fun n => rfl) ?_
        refine zEv_weak (L := [some (.ref 38), some (.int x182), some (.int x183), some (.int (v3 + 1))]) (by exact ⟨rfl, ⟨rfl, ⟨rfl, ⟨rfl, trivial⟩⟩⟩⟩) ?_
        exact ih hf kk
      clear hf
      refine zEv_if 2 (c := x179 ≤ v2) (f1 := (36, [some (.ref 38), some (.int v1), some (.int v2), some (.int v3)], [])) (f2 := (25, [some (.ref 38), some (.int v1), some (.int v2), some (.int v3)], [])) (h1 := zHp I) (fun n => rfl) (fun hc => ?_) (fun hc => ?_)
      · rw [if_pos hc] at hm_m180
        have hq0 := Option.some.inj hm_m180
        obtain ⟨he0, hq1⟩ := Prod.mk.inj hq0
        subst he0
        subst hq1
        exact zEv_weak (L := [some (.ref 38), some (.int v1), some (.int v2), some (.int v3)]) (by exact ⟨rfl, ⟨rfl, ⟨rfl, ⟨rfl, trivial⟩⟩⟩⟩) hJ_m180
      · rw [if_neg hc] at hm_m180
        obtain ⟨x181, hx, hm_m180⟩ := Option.bind_eq_some_iff.mp hm_m180
        refine zEv_call 6 (N := 60) (vs := [.ref 50, .int v3]) (v1 := some (.int x181)) (h1 := zHp I) (L := [some (.ref 38), some (.int v3), some (.int v2), some (.int v3)]) (rest := []) (pc := 35) (fun n => rfl) (s_Rw_at_50 hx d (by omega)) rfl rfl ?_
        show zEv _ _ _ (35, [some (.ref 38), some (.int v3), some (.int v2), some (.int v3)], [.int x181]) _ _ _
        have hq0 := Option.some.inj hm_m180
        obtain ⟨he0, hq1⟩ := Prod.mk.inj hq0
        subst he0
        subst hq1
        refine zEv_go 1 (f1 := (36, [some (.ref 38), some (.int v3), some (.int x181), some (.int v3)], [])) (h1 := zHp I) (fun n => rfl) ?_
        exact zEv_weak (L := [some (.ref 38), some (.int v3), some (.int x181), some (.int v3)]) (by exact ⟨rfl, ⟨rfl, ⟨rfl, ⟨rfl, trivial⟩⟩⟩⟩) hJ_m180
def Co_mostHanded (n : Nat) (I : zI) : Option (Int32) :=
  (Co_mostHanded_L7 n (-6) 0 0 I).bind fun x184 =>
  some x184
theorem s_Co_mostHanded {n : Nat} {I : zI} {r : Int32} (hf : Co_mostHanded n I = some r) (d : Nat) (hd : 1 ≤ d) : zCall d 5 [.ref 38] (zHp I) (some (.int r)) (zHp I) := by
  obtain ⟨d, rfl⟩ : ∃ e, d = e + 1 := ⟨d - 1, by omega⟩
  rw [Co_mostHanded] at hf
  show zEv _ _ _ (0, [some (.ref 38), none, none, none], []) _ _ _
  obtain ⟨x184, hx, hf⟩ := Option.bind_eq_some_iff.mp hf
  refine zEv_go 6 (f1 := (7, [some (.ref 38), some (.int (-6)), some (.int 0), some (.int 0)], [])) (h1 := zHp I) (fun n => rfl) ?_
  refine zEv_weak (L := [some (.ref 38), some (.int (-6)), some (.int 0), some (.int 0)]) (by exact ⟨rfl, ⟨rfl, ⟨rfl, ⟨rfl, trivial⟩⟩⟩⟩) (s_Co_mostHanded_L7 (d + 1) (by omega) n hx ?_)
  cases hf
  exact zEv_ret 2 (fun n => rfl)
def BM_most (n : Nat) (I : zI) : Option (Int32 × zI) :=
  (Co_tryOut_2_35 n I).bind fun (x177, I178) =>
  if x177 = 0 then
    (Co_mostHanded n I178).bind fun x185 =>
    some (x185, I178)
  else
    some (x177, I178)
theorem s_BM_most {n : Nat} {I : zI} {r : Int32} {I' : zI} (hf : BM_most n I = some (r, I')) (d : Nat) (hd : 6 ≤ d) : zCall d 91 [.ref 1] (zHp I) (some (.int r)) (zHp I') := by
  obtain ⟨d, rfl⟩ : ∃ e, d = e + 1 := ⟨d - 1, by omega⟩
  rw [BM_most] at hf
  show zEv _ _ _ (0, [some (.ref 1), none], []) _ _ _
  obtain ⟨⟨x177, I178⟩, hx, hf⟩ := Option.bind_eq_some_iff.mp hf
  dsimp only at hf
  refine zEv_call 7 (N := 1) (vs := [.ref 38, .ref 2, .ref 35]) (v1 := some (.int x177)) (h1 := zHp I178) (L := [some (.ref 1), none]) (rest := []) (pc := 15) (fun n => rfl) (s_Co_tryOut_2_35 hx d (by omega)) rfl rfl ?_
  show zEv _ _ _ (15, [some (.ref 1), none], [.int x177]) _ _ _
  refine zEv_if 3 (c := x177 = 0) (f1 := (24, [some (.ref 1), some (.int x177)], [])) (f2 := (20, [some (.ref 1), some (.int x177)], [])) (h1 := zHp I178) (fun n => rfl) (fun hc => ?_) (fun hc => ?_)
  · rw [if_pos hc] at hf
    obtain ⟨x185, hx, hf⟩ := Option.bind_eq_some_iff.mp hf
    refine zEv_call 3 (N := 5) (vs := [.ref 38]) (v1 := some (.int x185)) (h1 := zHp I178) (L := [some (.ref 1), some (.int x177)]) (rest := []) (pc := 31) (fun n => rfl) (s_Co_mostHanded hx d (by omega)) rfl rfl ?_
    show zEv _ _ _ (31, [some (.ref 1), some (.int x177)], [.int x185]) _ _ _
    cases hf
    exact zEv_ret 1 (fun n => rfl)
  · rw [if_neg hc] at hf
    cases hf
    exact zEv_ret 3 (fun n => rfl)
def Rw_copyFrom_3_40  (I : zI) : Option (zI) :=
  some (zRow I 4 (va_cpy (I 41) (I 4) 0 0 10))
theorem s_Rw_copyFrom_3_40  {I : zI} {I' : zI} (hf : Rw_copyFrom_3_40 I = some I') (d : Nat) (hd : 1 ≤ d) : zCall d 63 [.ref 3, .ref 40] (zHp I) (none) (zHp I') := by
  obtain ⟨d, rfl⟩ : ∃ e, d = e + 1 := ⟨d - 1, by omega⟩
  rw [Rw_copyFrom_3_40] at hf
  show zEv _ _ _ (0, [some (.ref 3), some (.ref 40)], []) _ _ _
  cases hf
  exact zEv_ret 20 (fun n => rfl)
def Rw_copyFrom_5_42  (I : zI) : Option (zI) :=
  some (zRow I 6 (va_cpy (I 43) (I 6) 0 0 8))
theorem s_Rw_copyFrom_5_42  {I : zI} {I' : zI} (hf : Rw_copyFrom_5_42 I = some I') (d : Nat) (hd : 1 ≤ d) : zCall d 63 [.ref 5, .ref 42] (zHp I) (none) (zHp I') := by
  obtain ⟨d, rfl⟩ : ∃ e, d = e + 1 := ⟨d - 1, by omega⟩
  rw [Rw_copyFrom_5_42] at hf
  show zEv _ _ _ (0, [some (.ref 5), some (.ref 42)], []) _ _ _
  cases hf
  exact zEv_ret 20 (fun n => rfl)
def Rw_copyFrom_7_44  (I : zI) : Option (zI) :=
  some (zRow I 8 (va_cpy (I 45) (I 8) 0 0 12))
theorem s_Rw_copyFrom_7_44  {I : zI} {I' : zI} (hf : Rw_copyFrom_7_44 I = some I') (d : Nat) (hd : 1 ≤ d) : zCall d 63 [.ref 7, .ref 44] (zHp I) (none) (zHp I') := by
  obtain ⟨d, rfl⟩ : ∃ e, d = e + 1 := ⟨d - 1, by omega⟩
  rw [Rw_copyFrom_7_44] at hf
  show zEv _ _ _ (0, [some (.ref 7), some (.ref 44)], []) _ _ _
  cases hf
  exact zEv_ret 20 (fun n => rfl)
def Rw_copyFrom_9_46  (I : zI) : Option (zI) :=
  some (zRow I 10 (va_cpy (I 47) (I 10) 0 0 12))
theorem s_Rw_copyFrom_9_46  {I : zI} {I' : zI} (hf : Rw_copyFrom_9_46 I = some I') (d : Nat) (hd : 1 ≤ d) : zCall d 63 [.ref 9, .ref 46] (zHp I) (none) (zHp I') := by
  obtain ⟨d, rfl⟩ : ∃ e, d = e + 1 := ⟨d - 1, by omega⟩
  rw [Rw_copyFrom_9_46] at hf
  show zEv _ _ _ (0, [some (.ref 9), some (.ref 46)], []) _ _ _
  cases hf
  exact zEv_ret 20 (fun n => rfl)
def Rw_copyFrom_11_48  (I : zI) : Option (zI) :=
  some (zRow I 12 (va_cpy (I 49) (I 12) 0 0 8))
theorem s_Rw_copyFrom_11_48  {I : zI} {I' : zI} (hf : Rw_copyFrom_11_48 I = some I') (d : Nat) (hd : 1 ≤ d) : zCall d 63 [.ref 11, .ref 48] (zHp I) (none) (zHp I') := by
  obtain ⟨d, rfl⟩ : ∃ e, d = e + 1 := ⟨d - 1, by omega⟩
  rw [Rw_copyFrom_11_48] at hf
  show zEv _ _ _ (0, [some (.ref 11), some (.ref 48)], []) _ _ _
  cases hf
  exact zEv_ret 20 (fun n => rfl)
def Ga_copyFrom_2_39  (I : zI) : Option (zI) :=
  (Rw_copyFrom_3_40 I).bind fun I188 =>
  (Rw_copyFrom_5_42 I188).bind fun I189 =>
  (Rw_copyFrom_7_44 I189).bind fun I190 =>
  (Rw_copyFrom_9_46 I190).bind fun I191 =>
  (Rw_copyFrom_11_48 I191).bind fun I192 =>
  some (zUp (zUp (zUp I192 2 5 (I192 39 5)) 2 6 ((zUp I192 2 5 (I192 39 5)) 39 6)) 2 7 ((zUp (zUp I192 2 5 (I192 39 5)) 2 6 ((zUp I192 2 5 (I192 39 5)) 39 6)) 39 7))
theorem s_Ga_copyFrom_2_39  {I : zI} {I' : zI} (hf : Ga_copyFrom_2_39 I = some I') (d : Nat) (hd : 2 ≤ d) : zCall d 10 [.ref 2, .ref 39] (zHp I) (none) (zHp I') := by
  obtain ⟨d, rfl⟩ : ∃ e, d = e + 1 := ⟨d - 1, by omega⟩
  rw [Ga_copyFrom_2_39] at hf
  show zEv _ _ _ (0, [some (.ref 2), some (.ref 39)], []) _ _ _
  obtain ⟨I188, hx, hf⟩ := Option.bind_eq_some_iff.mp hf
  refine zEv_call 7 (N := 63) (vs := [.ref 3, .ref 40]) (v1 := none) (h1 := zHp I188) (L := [some (.ref 2), some (.ref 39)]) (rest := []) (pc := 16) (fun n => rfl) (s_Rw_copyFrom_3_40 hx d (by omega)) rfl rfl ?_
  show zEv _ _ _ (16, [some (.ref 2), some (.ref 39)], []) _ _ _
  obtain ⟨I189, hx, hf⟩ := Option.bind_eq_some_iff.mp hf
  refine zEv_call 5 (N := 63) (vs := [.ref 5, .ref 42]) (v1 := none) (h1 := zHp I189) (L := [some (.ref 2), some (.ref 39)]) (rest := []) (pc := 27) (fun n => rfl) (s_Rw_copyFrom_5_42 hx d (by omega)) rfl rfl ?_
  show zEv _ _ _ (27, [some (.ref 2), some (.ref 39)], []) _ _ _
  obtain ⟨I190, hx, hf⟩ := Option.bind_eq_some_iff.mp hf
  refine zEv_call 5 (N := 63) (vs := [.ref 7, .ref 44]) (v1 := none) (h1 := zHp I190) (L := [some (.ref 2), some (.ref 39)]) (rest := []) (pc := 38) (fun n => rfl) (s_Rw_copyFrom_7_44 hx d (by omega)) rfl rfl ?_
  show zEv _ _ _ (38, [some (.ref 2), some (.ref 39)], []) _ _ _
  obtain ⟨I191, hx, hf⟩ := Option.bind_eq_some_iff.mp hf
  refine zEv_call 5 (N := 63) (vs := [.ref 9, .ref 46]) (v1 := none) (h1 := zHp I191) (L := [some (.ref 2), some (.ref 39)]) (rest := []) (pc := 49) (fun n => rfl) (s_Rw_copyFrom_9_46 hx d (by omega)) rfl rfl ?_
  show zEv _ _ _ (49, [some (.ref 2), some (.ref 39)], []) _ _ _
  obtain ⟨I192, hx, hf⟩ := Option.bind_eq_some_iff.mp hf
  refine zEv_call 5 (N := 63) (vs := [.ref 11, .ref 48]) (v1 := none) (h1 := zHp I192) (L := [some (.ref 2), some (.ref 39)]) (rest := []) (pc := 60) (fun n => rfl) (s_Rw_copyFrom_11_48 hx d (by omega)) rfl rfl ?_
  show zEv _ _ _ (60, [some (.ref 2), some (.ref 39)], []) _ _ _
  cases hf
  exact zEv_ret 13 (fun n => rfl)
def BM_done (n : Nat) (I : zI) : Option (Int32 × zI) :=
  (Co_tryOut_2_35 n I).bind fun (x186, I187) =>
  if x186 = 0 then
    (Ga_copyFrom_2_39 I187).bind fun I193 =>
    (Pa_empty I193).bind fun I194 =>
    some ((I194 38 2), I194)
  else
    some (x186, I187)
theorem s_BM_done {n : Nat} {I : zI} {r : Int32} {I' : zI} (hf : BM_done n I = some (r, I')) (d : Nat) (hd : 6 ≤ d) : zCall d 92 [.ref 1] (zHp I) (some (.int r)) (zHp I') := by
  obtain ⟨d, rfl⟩ : ∃ e, d = e + 1 := ⟨d - 1, by omega⟩
  rw [BM_done] at hf
  show zEv _ _ _ (0, [some (.ref 1), none], []) _ _ _
  obtain ⟨⟨x186, I187⟩, hx, hf⟩ := Option.bind_eq_some_iff.mp hf
  dsimp only at hf
  refine zEv_call 7 (N := 1) (vs := [.ref 38, .ref 2, .ref 35]) (v1 := some (.int x186)) (h1 := zHp I187) (L := [some (.ref 1), none]) (rest := []) (pc := 15) (fun n => rfl) (s_Co_tryOut_2_35 hx d (by omega)) rfl rfl ?_
  show zEv _ _ _ (15, [some (.ref 1), none], [.int x186]) _ _ _
  refine zEv_if 3 (c := x186 = 0) (f1 := (22, [some (.ref 1), some (.int x186)], [])) (f2 := (20, [some (.ref 1), some (.int x186)], [])) (h1 := zHp I187) (fun n => rfl) (fun hc => ?_) (fun hc => ?_)
  · rw [if_pos hc] at hf
    obtain ⟨I193, hx, hf⟩ := Option.bind_eq_some_iff.mp hf
    refine zEv_call 6 (N := 10) (vs := [.ref 2, .ref 39]) (v1 := none) (h1 := zHp I193) (L := [some (.ref 1), some (.int x186)]) (rest := []) (pc := 36) (fun n => rfl) (s_Ga_copyFrom_2_39 hx d (by omega)) rfl rfl ?_
    show zEv _ _ _ (36, [some (.ref 1), some (.int x186)], []) _ _ _
    obtain ⟨I194, hx, hf⟩ := Option.bind_eq_some_iff.mp hf
    refine zEv_call 3 (N := 47) (vs := [.ref 35]) (v1 := none) (h1 := zHp I194) (L := [some (.ref 1), some (.int x186)]) (rest := []) (pc := 43) (fun n => rfl) (s_Pa_empty hx d (by omega)) rfl rfl ?_
    show zEv _ _ _ (43, [some (.ref 1), some (.int x186)], []) _ _ _
    cases hf
    exact zEv_ret 4 (fun n => rfl)
  · rw [if_neg hc] at hf
    cases hf
    exact zEv_ret 2 (fun n => rfl)
def Ga_neighboursOf_2_L4 : Nat → Int32 → Int32 → Int32 → zI → Option (Int32)
  | 0, _, _, _, _ => none
  | n + 1, v1, v2, v3, I =>
    if 10 ≤ v3 then
      some v2
    else
      (BM_has v1 v3 I).bind fun x198 =>
      (
        if x198 = 0 then
          some v2
        else
          (Rw_at_3 v3 I).bind fun x200 =>
          some (v2 ||| x200) : Option (Int32)).bind fun x201 =>
      Ga_neighboursOf_2_L4 n v1 x201 (v3 + 1) I
theorem s_Ga_neighboursOf_2_L4 (d : Nat) (hd : 1 ≤ d) : ∀ (n : Nat) {v1 : Int32} {v2 : Int32} {v3 : Int32} {I : zI} {y2 : Int32} {v : Option Value} {h' : zH}, Ga_neighboursOf_2_L4 n v1 v2 v3 I = some y2 → zEv none d 14 (35, [some (.ref 2), none, some (.int y2), none], []) (zHp I) v h' → zEv none d 14 (4, [some (.ref 2), some (.int v1), some (.int v2), some (.int v3)], []) (zHp I) v h' := by
  obtain ⟨d, rfl⟩ : ∃ e, d = e + 1 := ⟨d - 1, by omega⟩
  intro n
  induction n with
  | zero => intros; rename_i hf _; cases hf
  | succ n ih =>
    intro v1 v2 v3 I y2 v h' hf kk
    rw [Ga_neighboursOf_2_L4] at hf
    refine zEv_if 3 (c := 10 ≤ v3) (f1 := (35, [some (.ref 2), some (.int v1), some (.int v2), some (.int v3)], [])) (f2 := (10, [some (.ref 2), some (.int v1), some (.int v2), some (.int v3)], [])) (h1 := zHp I) (fun n => rfl) (fun hc => ?_) (fun hc => ?_)
    · rw [if_pos hc] at hf
      obtain rfl := Option.some.inj hf
      exact zEv_weak (L := [some (.ref 2), none, some (.int v2), none]) (by exact ⟨rfl, ⟨rfl, ⟨rfl, ⟨rfl, trivial⟩⟩⟩⟩) kk
    · rw [if_neg hc] at hf
      obtain ⟨x198, hx, hf⟩ := Option.bind_eq_some_iff.mp hf
      refine zEv_call 3 (N := 113) (vs := [.int v1, .int v3]) (v1 := some (.int x198)) (h1 := zHp I) (L := [some (.ref 2), some (.int v1), some (.int v2), some (.int v3)]) (rest := []) (pc := 15) (fun n => rfl) (s_BM_has hx d (by omega)) rfl rfl ?_
      show zEv _ _ _ (15, [some (.ref 2), some (.int v1), some (.int v2), some (.int v3)], [.int x198]) _ _ _
      obtain ⟨x201, hm_m199, hf⟩ := Option.bind_eq_some_iff.mp hf
      have hJ_m199 : zEv none (d + 1) 14 (29, [some (.ref 2), some (.int v1), some (.int x201), some (.int v3)], []) (zHp I) v h' := by
        refine zEv_go 2 (f1 := (4, [some (.ref 2), some (.int v1), some (.int x201), some (.int (v3 + 1))], [])) (h1 := zHp I) (fun n => rfl) ?_
        refine zEv_weak (L := [some (.ref 2), some (.int v1), some (.int x201), some (.int (v3 + 1))]) (by exact ⟨rfl, ⟨rfl, ⟨rfl, ⟨rfl, trivial⟩⟩⟩⟩) ?_
        exact ih hf kk
      clear hf
      refine zEv_if 1 (c := x198 = 0) (f1 := (29, [some (.ref 2), some (.int v1), some (.int v2), some (.int v3)], [])) (f2 := (18, [some (.ref 2), some (.int v1), some (.int v2), some (.int v3)], [])) (h1 := zHp I) (fun n => rfl) (fun hc => ?_) (fun hc => ?_)
      · rw [if_pos hc] at hm_m199
        obtain rfl := Option.some.inj hm_m199
        exact zEv_weak (L := [some (.ref 2), some (.int v1), some (.int v2), some (.int v3)]) (by exact ⟨rfl, ⟨rfl, ⟨rfl, ⟨rfl, trivial⟩⟩⟩⟩) hJ_m199
      · rw [if_neg hc] at hm_m199
        obtain ⟨x200, hx, hm_m199⟩ := Option.bind_eq_some_iff.mp hm_m199
        refine zEv_call 5 (N := 60) (vs := [.ref 3, .int v3]) (v1 := some (.int x200)) (h1 := zHp I) (L := [some (.ref 2), some (.int v1), some (.int v2), some (.int v3)]) (rest := [.int v2]) (pc := 27) (fun n => rfl) (s_Rw_at_3 hx d (by omega)) rfl rfl ?_
        show zEv _ _ _ (27, [some (.ref 2), some (.int v1), some (.int v2), some (.int v3)], [.int x200, .int v2]) _ _ _
        obtain rfl := Option.some.inj hm_m199
        refine zEv_go 2 (f1 := (29, [some (.ref 2), some (.int v1), some (.int (v2 ||| x200)), some (.int v3)], [])) (h1 := zHp I) (fun n => rfl) ?_
        exact zEv_weak (L := [some (.ref 2), some (.int v1), some (.int (v2 ||| x200)), some (.int v3)]) (by exact ⟨rfl, ⟨rfl, ⟨rfl, ⟨rfl, trivial⟩⟩⟩⟩) hJ_m199
def Ga_neighboursOf_2 (n : Nat) (a0 : Int32) (I : zI) : Option (Int32) :=
  (Ga_neighboursOf_2_L4 n a0 0 0 I).bind fun x202 =>
  some x202
theorem s_Ga_neighboursOf_2 {n : Nat} {a0 : Int32} {I : zI} {r : Int32} (hf : Ga_neighboursOf_2 n a0 I = some r) (d : Nat) (hd : 1 ≤ d) : zCall d 14 [.ref 2, .int a0] (zHp I) (some (.int r)) (zHp I) := by
  obtain ⟨d, rfl⟩ : ∃ e, d = e + 1 := ⟨d - 1, by omega⟩
  rw [Ga_neighboursOf_2] at hf
  show zEv _ _ _ (0, [some (.ref 2), some (.int a0), none, none], []) _ _ _
  obtain ⟨x202, hx, hf⟩ := Option.bind_eq_some_iff.mp hf
  refine zEv_go 4 (f1 := (4, [some (.ref 2), some (.int a0), some (.int 0), some (.int 0)], [])) (h1 := zHp I) (fun n => rfl) ?_
  refine zEv_weak (L := [some (.ref 2), some (.int a0), some (.int 0), some (.int 0)]) (by exact ⟨rfl, ⟨rfl, ⟨rfl, ⟨rfl, trivial⟩⟩⟩⟩) (s_Ga_neighboursOf_2_L4 (d + 1) (by omega) n hx ?_)
  cases hf
  exact zEv_ret 2 (fun n => rfl)
def Ga_stepsBetween_2_L7 : Nat → Int32 → Int32 → Int32 → zI → Option (Int32)
  | 0, _, _, _, _ => none
  | n + 1, v2, v3, v4, I =>
    if 10 ≤ v4 then
      some (-6)
    else
      (BM_has v3 v2 I).bind fun x197 =>
      if x197 = 0 then
        (Ga_neighboursOf_2 n v3 I).bind fun x203 =>
        Ga_stepsBetween_2_L7 n v2 (v3 ||| x203) (v4 + 1) I
      else
        some v4
theorem s_Ga_stepsBetween_2_L7 (d : Nat) (hd : 2 ≤ d) : ∀ (n : Nat) {v2 : Int32} {v3 : Int32} {v4 : Int32} {I : zI} {r : Int32}, Ga_stepsBetween_2_L7 n v2 v3 v4 I = some r → zEv none d 15 (7, [some (.ref 2), none, some (.int v2), some (.int v3), some (.int v4)], []) (zHp I) (some (.int r)) (zHp I) := by
  obtain ⟨d, rfl⟩ : ∃ e, d = e + 1 := ⟨d - 1, by omega⟩
  intro n
  induction n with
  | zero => intros; rename_i hf; cases hf
  | succ n ih =>
    intro v2 v3 v4 I r hf
    rw [Ga_stepsBetween_2_L7] at hf
    refine zEv_if 3 (c := 10 ≤ v4) (f1 := (39, [some (.ref 2), none, some (.int v2), some (.int v3), some (.int v4)], [])) (f2 := (14, [some (.ref 2), none, some (.int v2), some (.int v3), some (.int v4)], [])) (h1 := zHp I) (fun n => rfl) (fun hc => ?_) (fun hc => ?_)
    · rw [if_pos hc] at hf
      cases hf
      exact zEv_ret 2 (fun n => rfl)
    · rw [if_neg hc] at hf
      obtain ⟨x197, hx, hf⟩ := Option.bind_eq_some_iff.mp hf
      refine zEv_call 3 (N := 113) (vs := [.int v3, .int v2]) (v1 := some (.int x197)) (h1 := zHp I) (L := [some (.ref 2), none, some (.int v2), some (.int v3), some (.int v4)]) (rest := []) (pc := 19) (fun n => rfl) (s_BM_has hx d (by omega)) rfl rfl ?_
      show zEv _ _ _ (19, [some (.ref 2), none, some (.int v2), some (.int v3), some (.int v4)], [.int x197]) _ _ _
      refine zEv_if 1 (c := x197 = 0) (f1 := (25, [some (.ref 2), none, some (.int v2), some (.int v3), some (.int v4)], [])) (f2 := (22, [some (.ref 2), none, some (.int v2), some (.int v3), some (.int v4)], [])) (h1 := zHp I) (fun n => rfl) (fun hc => ?_) (fun hc => ?_)
      · rw [if_pos hc] at hf
        obtain ⟨x203, hx, hf⟩ := Option.bind_eq_some_iff.mp hf
        refine zEv_call 4 (N := 14) (vs := [.ref 2, .int v3]) (v1 := some (.int x203)) (h1 := zHp I) (L := [some (.ref 2), none, some (.int v2), some (.int v3), some (.int v4)]) (rest := [.int v3]) (pc := 31) (fun n => rfl) (s_Ga_neighboursOf_2 hx d (by omega)) rfl rfl ?_
        show zEv _ _ _ (31, [some (.ref 2), none, some (.int v2), some (.int v3), some (.int v4)], [.int x203, .int v3]) _ _ _
        refine zEv_go 4 (f1 := (7, [some (.ref 2), none, some (.int v2), some (.int (v3 ||| x203)), some (.int (v4 + 1))], [])) (h1 := zHp I) (fun n => rfl) ?_
        refine zEv_weak (L := [some (.ref 2), none, some (.int v2), some (.int (v3 ||| x203)), some (.int (v4 + 1))]) (by exact ⟨rfl, ⟨rfl, ⟨rfl, ⟨rfl, ⟨rfl, trivial⟩⟩⟩⟩⟩) ?_
        exact ih hf
      · rw [if_neg hc] at hf
        cases hf
        exact zEv_ret 2 (fun n => rfl)
def Ga_stepsBetween_2 (n : Nat) (a0 : Int32) (a1 : Int32) (I : zI) : Option (Int32) :=
  Ga_stepsBetween_2_L7 n a1 (zShl 1 a0) 0 I
theorem s_Ga_stepsBetween_2 {n : Nat} {a0 : Int32} {a1 : Int32} {I : zI} {r : Int32} (hf : Ga_stepsBetween_2 n a0 a1 I = some r) (d : Nat) (hd : 2 ≤ d) : zCall d 15 [.ref 2, .int a0, .int a1] (zHp I) (some (.int r)) (zHp I) := by
  obtain ⟨d, rfl⟩ : ∃ e, d = e + 1 := ⟨d - 1, by omega⟩
  rw [Ga_stepsBetween_2] at hf
  show zEv _ _ _ (0, [some (.ref 2), some (.int a0), some (.int a1), none, none], []) _ _ _
  refine zEv_go 6 (f1 := (7, [some (.ref 2), some (.int a0), some (.int a1), some (.int (zShl 1 a0)), some (.int 0)], [])) (h1 := zHp I) (fun n => rfl) ?_
  exact zEv_weak (L := [some (.ref 2), none, some (.int a1), some (.int (zShl 1 a0)), some (.int 0)]) (by exact ⟨rfl, ⟨rfl, ⟨rfl, ⟨rfl, ⟨rfl, trivial⟩⟩⟩⟩⟩) (s_Ga_stepsBetween_2_L7 (d + 1) (by omega) n hf)
def BM_steps (n : Nat) (a0 : Int32) (a1 : Int32) (I : zI) : Option (Int32) :=
  (BM_isBench a0 I).bind fun x195 =>
  if x195 = 0 then
    some (-1)
  else
    (BM_isBench a1 I).bind fun x196 =>
    if x196 = 0 then
      some (-1)
    else
      (Ga_stepsBetween_2 n a0 a1 I).bind fun x204 =>
      some x204
theorem s_BM_steps {n : Nat} {a0 : Int32} {a1 : Int32} {I : zI} {r : Int32} (hf : BM_steps n a0 a1 I = some r) (d : Nat) (hd : 3 ≤ d) : zCall d 93 [.ref 1, .int a0, .int a1] (zHp I) (some (.int r)) (zHp I) := by
  obtain ⟨d, rfl⟩ : ∃ e, d = e + 1 := ⟨d - 1, by omega⟩
  rw [BM_steps] at hf
  show zEv _ _ _ (0, [some (.ref 1), some (.int a0), some (.int a1)], []) _ _ _
  obtain ⟨x195, hx, hf⟩ := Option.bind_eq_some_iff.mp hf
  refine zEv_call 2 (N := 110) (vs := [.int a0]) (v1 := some (.int x195)) (h1 := zHp I) (L := [some (.ref 1), some (.int a0), some (.int a1)]) (rest := []) (pc := 4) (fun n => rfl) (s_BM_isBench hx d (by omega)) rfl rfl ?_
  show zEv _ _ _ (4, [some (.ref 1), some (.int a0), some (.int a1)], [.int x195]) _ _ _
  refine zEv_if 1 (c := x195 = 0) (f1 := (26, [some (.ref 1), some (.int a0), some (.int a1)], [])) (f2 := (7, [some (.ref 1), some (.int a0), some (.int a1)], [])) (h1 := zHp I) (fun n => rfl) (fun hc => ?_) (fun hc => ?_)
  · rw [if_pos hc] at hf
    cases hf
    exact zEv_ret 2 (fun n => rfl)
  · rw [if_neg hc] at hf
    obtain ⟨x196, hx, hf⟩ := Option.bind_eq_some_iff.mp hf
    refine zEv_call 2 (N := 110) (vs := [.int a1]) (v1 := some (.int x196)) (h1 := zHp I) (L := [some (.ref 1), some (.int a0), some (.int a1)]) (rest := []) (pc := 11) (fun n => rfl) (s_BM_isBench hx d (by omega)) rfl rfl ?_
    show zEv _ _ _ (11, [some (.ref 1), some (.int a0), some (.int a1)], [.int x196]) _ _ _
    refine zEv_if 1 (c := x196 = 0) (f1 := (26, [some (.ref 1), some (.int a0), some (.int a1)], [])) (f2 := (14, [some (.ref 1), some (.int a0), some (.int a1)], [])) (h1 := zHp I) (fun n => rfl) (fun hc => ?_) (fun hc => ?_)
    · rw [if_pos hc] at hf
      cases hf
      exact zEv_ret 2 (fun n => rfl)
    · rw [if_neg hc] at hf
      obtain ⟨x204, hx, hf⟩ := Option.bind_eq_some_iff.mp hf
      refine zEv_call 5 (N := 15) (vs := [.ref 2, .int a0, .int a1]) (v1 := some (.int x204)) (h1 := zHp I) (L := [some (.ref 1), some (.int a0), some (.int a1)]) (rest := []) (pc := 23) (fun n => rfl) (s_Ga_stepsBetween_2 hx d (by omega)) rfl rfl ?_
      show zEv _ _ _ (23, [some (.ref 1), some (.int a0), some (.int a1)], [.int x204]) _ _ _
      cases hf
      exact zEv_ret 2 (fun n => rfl)
def Ga_hasCushion_2  (a0 : Int32) (I : zI) : Option (Int32) :=
  (BM_has (I 2 6) a0 I).bind fun x211 =>
  if x211 = 0 ∨ x211 = 1 then some x211 else none
theorem s_Ga_hasCushion_2  {a0 : Int32} {I : zI} {r : Int32} (hf : Ga_hasCushion_2 a0 I = some r) (d : Nat) (hd : 1 ≤ d) : zCall d 17 [.ref 2, .int a0] (zHp I) (some (.int r)) (zHp I) := by
  obtain ⟨d, rfl⟩ : ∃ e, d = e + 1 := ⟨d - 1, by omega⟩
  rw [Ga_hasCushion_2] at hf
  show zEv _ _ _ (0, [some (.ref 2), some (.int a0)], []) _ _ _
  obtain ⟨x211, hx, hf⟩ := Option.bind_eq_some_iff.mp hf
  refine zEv_call 4 (N := 113) (vs := [.int (I 2 6), .int a0]) (v1 := some (.int x211)) (h1 := zHp I) (L := [some (.ref 2), some (.int a0)]) (rest := []) (pc := 8) (fun n => rfl) (s_BM_has hx d (by omega)) rfl rfl ?_
  show zEv _ _ _ (8, [some (.ref 2), some (.int a0)], [.int x211]) _ _ _
  obtain ⟨hc, hf⟩ := zGd_inv hf
  cases hf
  exact zEv_rt hc 1 (fun n => rfl)
def BM_get (n : Nat) (a0 : Int32) (a1 : Int32) (I : zI) : Option (Int32) :=
  (BM_isOne a0 I).bind fun x205 =>
  if x205 = 0 then
    some (-1)
  else
    (BM_isMemory a1 I).bind fun x206 =>
    if x206 = 0 then
      some (-1)
    else
      (Ga_placeOf_2 a1 I).bind fun x207 =>
      (BM_isBench (x207 - 10) I).bind fun x208 =>
      if x208 = 0 then
        some (-3)
      else
        (Ga_benchOf_2 a0 I).bind fun x209 =>
        (Ga_stepsBetween_2 n x209 (x207 - 10) I).bind fun x210 =>
        if x210 = (-6) then
          some (-6)
        else
          (Ga_hasCushion_2 (x207 - 10) I).bind fun x212 =>
          if x212 = 0 then
            some (x210 + 1)
          else
            some (-6)
theorem s_BM_get {n : Nat} {a0 : Int32} {a1 : Int32} {I : zI} {r : Int32} (hf : BM_get n a0 a1 I = some r) (d : Nat) (hd : 3 ≤ d) : zCall d 94 [.ref 1, .int a0, .int a1] (zHp I) (some (.int r)) (zHp I) := by
  obtain ⟨d, rfl⟩ : ∃ e, d = e + 1 := ⟨d - 1, by omega⟩
  rw [BM_get] at hf
  show zEv _ _ _ (0, [some (.ref 1), some (.int a0), some (.int a1), none, none], []) _ _ _
  obtain ⟨x205, hx, hf⟩ := Option.bind_eq_some_iff.mp hf
  refine zEv_call 2 (N := 111) (vs := [.int a0]) (v1 := some (.int x205)) (h1 := zHp I) (L := [some (.ref 1), some (.int a0), some (.int a1), none, none]) (rest := []) (pc := 4) (fun n => rfl) (s_BM_isOne hx d (by omega)) rfl rfl ?_
  show zEv _ _ _ (4, [some (.ref 1), some (.int a0), some (.int a1), none, none], [.int x205]) _ _ _
  refine zEv_if 1 (c := x205 = 0) (f1 := (14, [some (.ref 1), some (.int a0), some (.int a1), none, none], [])) (f2 := (7, [some (.ref 1), some (.int a0), some (.int a1), none, none], [])) (h1 := zHp I) (fun n => rfl) (fun hc => ?_) (fun hc => ?_)
  · rw [if_pos hc] at hf
    cases hf
    exact zEv_ret 2 (fun n => rfl)
  · rw [if_neg hc] at hf
    obtain ⟨x206, hx, hf⟩ := Option.bind_eq_some_iff.mp hf
    refine zEv_call 2 (N := 112) (vs := [.int a1]) (v1 := some (.int x206)) (h1 := zHp I) (L := [some (.ref 1), some (.int a0), some (.int a1), none, none]) (rest := []) (pc := 11) (fun n => rfl) (s_BM_isMemory hx d (by omega)) rfl rfl ?_
    show zEv _ _ _ (11, [some (.ref 1), some (.int a0), some (.int a1), none, none], [.int x206]) _ _ _
    refine zEv_if 1 (c := x206 = 0) (f1 := (14, [some (.ref 1), some (.int a0), some (.int a1), none, none], [])) (f2 := (16, [some (.ref 1), some (.int a0), some (.int a1), none, none], [])) (h1 := zHp I) (fun n => rfl) (fun hc => ?_) (fun hc => ?_)
    · rw [if_pos hc] at hf
      cases hf
      exact zEv_ret 2 (fun n => rfl)
    · rw [if_neg hc] at hf
      obtain ⟨x207, hx, hf⟩ := Option.bind_eq_some_iff.mp hf
      refine zEv_call 4 (N := 19) (vs := [.ref 2, .int a1]) (v1 := some (.int x207)) (h1 := zHp I) (L := [some (.ref 1), some (.int a0), some (.int a1), none, none]) (rest := []) (pc := 24) (fun n => rfl) (s_Ga_placeOf_2 hx d (by omega)) rfl rfl ?_
      show zEv _ _ _ (24, [some (.ref 1), some (.int a0), some (.int a1), none, none], [.int x207]) _ _ _
      obtain ⟨x208, hx, hf⟩ := Option.bind_eq_some_iff.mp hf
      refine zEv_call 5 (N := 110) (vs := [.int (x207 - 10)]) (v1 := some (.int x208)) (h1 := zHp I) (L := [some (.ref 1), some (.int a0), some (.int a1), some (.int (x207 - 10)), none]) (rest := []) (pc := 32) (fun n => rfl) (s_BM_isBench hx d (by omega)) rfl rfl ?_
      show zEv _ _ _ (32, [some (.ref 1), some (.int a0), some (.int a1), some (.int (x207 - 10)), none], [.int x208]) _ _ _
      refine zEv_if 1 (c := x208 = 0) (f1 := (35, [some (.ref 1), some (.int a0), some (.int a1), some (.int (x207 - 10)), none], [])) (f2 := (38, [some (.ref 1), some (.int a0), some (.int a1), some (.int (x207 - 10)), none], [])) (h1 := zHp I) (fun n => rfl) (fun hc => ?_) (fun hc => ?_)
      · rw [if_pos hc] at hf
        cases hf
        exact zEv_ret 2 (fun n => rfl)
      · rw [if_neg hc] at hf
        obtain ⟨x209, hx, hf⟩ := Option.bind_eq_some_iff.mp hf
        refine zEv_call 6 (N := 18) (vs := [.ref 2, .int a0]) (v1 := some (.int x209)) (h1 := zHp I) (L := [some (.ref 1), some (.int a0), some (.int a1), some (.int (x207 - 10)), none]) (rest := [.ref 2]) (pc := 50) (fun n => rfl) (s_Ga_benchOf_2 hx d (by omega)) rfl rfl ?_
        show zEv _ _ _ (50, [some (.ref 1), some (.int a0), some (.int a1), some (.int (x207 - 10)), none], [.int x209, .ref 2]) _ _ _
        obtain ⟨x210, hx, hf⟩ := Option.bind_eq_some_iff.mp hf
        refine zEv_call 2 (N := 15) (vs := [.ref 2, .int x209, .int (x207 - 10)]) (v1 := some (.int x210)) (h1 := zHp I) (L := [some (.ref 1), some (.int a0), some (.int a1), some (.int (x207 - 10)), none]) (rest := []) (pc := 54) (fun n => rfl) (s_Ga_stepsBetween_2 hx d (by omega)) rfl rfl ?_
        show zEv _ _ _ (54, [some (.ref 1), some (.int a0), some (.int a1), some (.int (x207 - 10)), none], [.int x210]) _ _ _
        refine zEv_if 4 (c := x210 = (-6)) (f1 := (74, [some (.ref 1), some (.int a0), some (.int a1), some (.int (x207 - 10)), some (.int x210)], [])) (f2 := (63, [some (.ref 1), some (.int a0), some (.int a1), some (.int (x207 - 10)), some (.int x210)], [])) (h1 := zHp I) (fun n => rfl) (fun hc => ?_) (fun hc => ?_)
        · rw [if_pos hc] at hf
          cases hf
          exact zEv_ret 3 (fun n => rfl)
        · rw [if_neg hc] at hf
          obtain ⟨x212, hx, hf⟩ := Option.bind_eq_some_iff.mp hf
          refine zEv_call 4 (N := 17) (vs := [.ref 2, .int (x207 - 10)]) (v1 := some (.int x212)) (h1 := zHp I) (L := [some (.ref 1), some (.int a0), some (.int a1), some (.int (x207 - 10)), some (.int x210)]) (rest := []) (pc := 71) (fun n => rfl) (s_Ga_hasCushion_2 hx d (by omega)) rfl rfl ?_
          show zEv _ _ _ (71, [some (.ref 1), some (.int a0), some (.int a1), some (.int (x207 - 10)), some (.int x210)], [.int x212]) _ _ _
          refine zEv_if 1 (c := x212 = 0) (f1 := (79, [some (.ref 1), some (.int a0), some (.int a1), some (.int (x207 - 10)), some (.int x210)], [])) (f2 := (74, [some (.ref 1), some (.int a0), some (.int a1), some (.int (x207 - 10)), some (.int x210)], [])) (h1 := zHp I) (fun n => rfl) (fun hc => ?_) (fun hc => ?_)
          · rw [if_pos hc] at hf
            cases hf
            exact zEv_ret 4 (fun n => rfl)
          · rw [if_neg hc] at hf
            cases hf
            exact zEv_ret 3 (fun n => rfl)
def Rw_put_53  (a0 : Int32) (a1 : Int32) (I : zI) : Option (zI) :=
  if a0 < 0 then
    some I
  else
    if 10 ≤ a0 then
      some I
    else
      if zIn a0 10 then
        some (zUp I 54 (Int32.toNatClampNeg a0) a1)
      else none
theorem s_Rw_put_53  {a0 : Int32} {a1 : Int32} {I : zI} {I' : zI} (hf : Rw_put_53 a0 a1 I = some I') (d : Nat) (hd : 0 ≤ d) : zCall d 61 [.ref 53, .int a0, .int a1] (zHp I) (none) (zHp I') := by
  rw [Rw_put_53] at hf
  show zEv _ _ _ (0, [some (.ref 53), some (.int a0), some (.int a1)], []) _ _ _
  refine zEv_if 2 (c := a0 < 0) (f1 := (20, [some (.ref 53), some (.int a0), some (.int a1)], [])) (f2 := (4, [some (.ref 53), some (.int a0), some (.int a1)], [])) (h1 := zHp I) (fun n => rfl) (fun hc => ?_) (fun hc => ?_)
  · rw [if_pos hc] at hf
    cases hf
    exact zEv_ret 1 (fun n => rfl)
  · rw [if_neg hc] at hf
    refine zEv_if 5 (c := 10 ≤ a0) (f1 := (20, [some (.ref 53), some (.int a0), some (.int a1)], [])) (f2 := (13, [some (.ref 53), some (.int a0), some (.int a1)], [])) (h1 := zHp I) (fun n => rfl) (fun hc => ?_) (fun hc => ?_)
    · rw [if_pos hc] at hf
      cases hf
      exact zEv_ret 1 (fun n => rfl)
    · rw [if_neg hc] at hf
      obtain ⟨hc, hf⟩ := zGd_inv hf
      refine zEv_gd 5 (c := zIn a0 10) (f1 := (20, [some (.ref 53), some (.int a0), some (.int a1)], [])) (h1 := zHp (zUp I 54 (Int32.toNatClampNeg a0) a1)) (fun n => rfl) hc ?_
      cases hf
      exact zEv_ret 1 (fun n => rfl)
def Rd_gatherStops_L7 : Nat → Int32 → Int32 → Int32 → zI → Option (zI)
  | 0, _, _, _, _ => none
  | n + 1, v1, v2, v3, I =>
    if 10 ≤ v3 then
      some I
    else
      (
        if v3 = v1 then
          some I
        else
          (BM_has v2 v3 I).bind fun x216 =>
          if x216 = 0 then
            some I
          else
            (Rw_put_53 (I 52 3) v3 I).bind fun I217 =>
            some (zUp I217 52 3 ((I217 52 3) + 1)) : Option (zI)).bind fun I218 =>
      Rd_gatherStops_L7 n v1 v2 (v3 + 1) I218
theorem s_Rd_gatherStops_L7 (d : Nat) (hd : 1 ≤ d) : ∀ (n : Nat) {v1 : Int32} {v2 : Int32} {v3 : Int32} {I : zI}  {I' : zI} {v : Option Value} {h' : zH}, Rd_gatherStops_L7 n v1 v2 v3 I = some I' → zEv none d 56 (54, [some (.ref 52), some (.int v1), none, none], []) (zHp I') v h' → zEv none d 56 (7, [some (.ref 52), some (.int v1), some (.int v2), some (.int v3)], []) (zHp I) v h' := by
  obtain ⟨d, rfl⟩ : ∃ e, d = e + 1 := ⟨d - 1, by omega⟩
  intro n
  induction n with
  | zero => intros; rename_i hf _; cases hf
  | succ n ih =>
    intro v1 v2 v3 I I' v h' hf kk
    rw [Rd_gatherStops_L7] at hf
    refine zEv_if 3 (c := 10 ≤ v3) (f1 := (54, [some (.ref 52), some (.int v1), some (.int v2), some (.int v3)], [])) (f2 := (13, [some (.ref 52), some (.int v1), some (.int v2), some (.int v3)], [])) (h1 := zHp I) (fun n => rfl) (fun hc => ?_) (fun hc => ?_)
    · rw [if_pos hc] at hf
      obtain rfl := Option.some.inj hf
      exact zEv_weak (L := [some (.ref 52), some (.int v1), none, none]) (by exact ⟨rfl, ⟨rfl, ⟨rfl, ⟨rfl, trivial⟩⟩⟩⟩) kk
    · rw [if_neg hc] at hf
      obtain ⟨I218, hm_m215, hf⟩ := Option.bind_eq_some_iff.mp hf
      have hJ_m215 : zEv none (d + 1) 56 (48, [some (.ref 52), some (.int v1), some (.int v2), some (.int v3)], []) (zHp I218) v h' := by
        refine zEv_go 2 (f1 := (7, [some (.ref 52), some (.int v1), some (.int v2), some (.int (v3 + 1))], [])) (h1 := zHp I218) (fun n => rfl) ?_
        refine zEv_weak (L := [some (.ref 52), some (.int v1), some (.int v2), some (.int (v3 + 1))]) (by exact ⟨rfl, ⟨rfl, ⟨rfl, ⟨rfl, trivial⟩⟩⟩⟩) ?_
        exact ih hf kk
      clear hf
      refine zEv_if 3 (c := v3 = v1) (f1 := (48, [some (.ref 52), some (.int v1), some (.int v2), some (.int v3)], [])) (f2 := (18, [some (.ref 52), some (.int v1), some (.int v2), some (.int v3)], [])) (h1 := zHp I) (fun n => rfl) (fun hc => ?_) (fun hc => ?_)
      · rw [if_pos hc] at hm_m215
        obtain rfl := Option.some.inj hm_m215
        exact zEv_weak (L := [some (.ref 52), some (.int v1), some (.int v2), some (.int v3)]) (by exact ⟨rfl, ⟨rfl, ⟨rfl, ⟨rfl, trivial⟩⟩⟩⟩) hJ_m215
      · rw [if_neg hc] at hm_m215
        obtain ⟨x216, hx, hm_m215⟩ := Option.bind_eq_some_iff.mp hm_m215
        refine zEv_call 3 (N := 113) (vs := [.int v2, .int v3]) (v1 := some (.int x216)) (h1 := zHp I) (L := [some (.ref 52), some (.int v1), some (.int v2), some (.int v3)]) (rest := []) (pc := 23) (fun n => rfl) (s_BM_has hx d (by omega)) rfl rfl ?_
        show zEv _ _ _ (23, [some (.ref 52), some (.int v1), some (.int v2), some (.int v3)], [.int x216]) _ _ _
        refine zEv_if 1 (c := x216 = 0) (f1 := (48, [some (.ref 52), some (.int v1), some (.int v2), some (.int v3)], [])) (f2 := (26, [some (.ref 52), some (.int v1), some (.int v2), some (.int v3)], [])) (h1 := zHp I) (fun n => rfl) (fun hc => ?_) (fun hc => ?_)
        · rw [if_pos hc] at hm_m215
          obtain rfl := Option.some.inj hm_m215
          exact zEv_weak (L := [some (.ref 52), some (.int v1), some (.int v2), some (.int v3)]) (by exact ⟨rfl, ⟨rfl, ⟨rfl, ⟨rfl, trivial⟩⟩⟩⟩) hJ_m215
        · rw [if_neg hc] at hm_m215
          obtain ⟨I217, hx, hm_m215⟩ := Option.bind_eq_some_iff.mp hm_m215
          refine zEv_call 6 (N := 61) (vs := [.ref 53, .int (I 52 3), .int v3]) (v1 := none) (h1 := zHp I217) (L := [some (.ref 52), some (.int v1), some (.int v2), some (.int v3)]) (rest := []) (pc := 38) (fun n => rfl) (s_Rw_put_53 hx d (by omega)) rfl rfl ?_
          show zEv _ _ _ (38, [some (.ref 52), some (.int v1), some (.int v2), some (.int v3)], []) _ _ _
          obtain rfl := Option.some.inj hm_m215
          refine zEv_go 6 (f1 := (48, [some (.ref 52), some (.int v1), some (.int v2), some (.int v3)], [])) (h1 := zHp (zUp I217 52 3 ((I217 52 3) + 1))) (fun n => rfl) ?_
          exact zEv_weak (L := [some (.ref 52), some (.int v1), some (.int v2), some (.int v3)]) (by exact ⟨rfl, ⟨rfl, ⟨rfl, ⟨rfl, trivial⟩⟩⟩⟩) hJ_m215
def Rd_gatherStops (n : Nat) (a0 : Int32) (a1 : Int32) (I : zI) : Option (zI) :=
  (Rd_gatherStops_L7 n a0 a1 0 (zUp I 52 3 0)).bind fun I219 =>
  (Rw_put_53 9 a0 I219).bind fun I220 =>
  some I220
theorem s_Rd_gatherStops {n : Nat} {a0 : Int32} {a1 : Int32} {I : zI} {I' : zI} (hf : Rd_gatherStops n a0 a1 I = some I') (d : Nat) (hd : 1 ≤ d) : zCall d 56 [.ref 52, .int a0, .int a1] (zHp I) (none) (zHp I') := by
  obtain ⟨d, rfl⟩ : ∃ e, d = e + 1 := ⟨d - 1, by omega⟩
  rw [Rd_gatherStops] at hf
  show zEv _ _ _ (0, [some (.ref 52), some (.int a0), some (.int a1), none], []) _ _ _
  obtain ⟨I219, hx, hf⟩ := Option.bind_eq_some_iff.mp hf
  refine zEv_go 5 (f1 := (7, [some (.ref 52), some (.int a0), some (.int a1), some (.int 0)], [])) (h1 := zHp (zUp I 52 3 0)) (fun n => rfl) ?_
  refine zEv_weak (L := [some (.ref 52), some (.int a0), some (.int a1), some (.int 0)]) (by exact ⟨rfl, ⟨rfl, ⟨rfl, ⟨rfl, trivial⟩⟩⟩⟩) (s_Rd_gatherStops_L7 (d + 1) (by omega) n hx ?_)
  obtain ⟨I220, hx, hf⟩ := Option.bind_eq_some_iff.mp hf
  refine zEv_call 5 (N := 61) (vs := [.ref 53, .int 9, .int a0]) (v1 := none) (h1 := zHp I220) (L := [some (.ref 52), some (.int a0), none, none]) (rest := []) (pc := 64) (fun n => rfl) (s_Rw_put_53 hx d (by omega)) rfl rfl ?_
  show zEv _ _ _ (64, [some (.ref 52), some (.int a0), none, none], []) _ _ _
  cases hf
  exact zEv_ret 1 (fun n => rfl)
def Ga_reachableFrom_2_L6 : Nat → Int32 → Int32 → zI → Option (Int32)
  | 0, _, _, _ => none
  | n + 1, v2, v3, I =>
    if 10 ≤ v3 then
      some v2
    else
      (Ga_neighboursOf_2 n v2 I).bind fun x222 =>
      Ga_reachableFrom_2_L6 n (v2 ||| x222) (v3 + 1) I
theorem s_Ga_reachableFrom_2_L6 (d : Nat) (hd : 2 ≤ d) : ∀ (n : Nat) {v2 : Int32} {v3 : Int32} {I : zI} {y2 : Int32} {v : Option Value} {h' : zH}, Ga_reachableFrom_2_L6 n v2 v3 I = some y2 → zEv none d 16 (26, [some (.ref 2), none, some (.int y2), none], []) (zHp I) v h' → zEv none d 16 (6, [some (.ref 2), none, some (.int v2), some (.int v3)], []) (zHp I) v h' := by
  obtain ⟨d, rfl⟩ : ∃ e, d = e + 1 := ⟨d - 1, by omega⟩
  intro n
  induction n with
  | zero => intros; rename_i hf _; cases hf
  | succ n ih =>
    intro v2 v3 I y2 v h' hf kk
    rw [Ga_reachableFrom_2_L6] at hf
    refine zEv_if 3 (c := 10 ≤ v3) (f1 := (26, [some (.ref 2), none, some (.int v2), some (.int v3)], [])) (f2 := (12, [some (.ref 2), none, some (.int v2), some (.int v3)], [])) (h1 := zHp I) (fun n => rfl) (fun hc => ?_) (fun hc => ?_)
    · rw [if_pos hc] at hf
      obtain rfl := Option.some.inj hf
      exact zEv_weak (L := [some (.ref 2), none, some (.int v2), none]) (by exact ⟨rfl, ⟨rfl, ⟨rfl, ⟨rfl, trivial⟩⟩⟩⟩) kk
    · rw [if_neg hc] at hf
      obtain ⟨x222, hx, hf⟩ := Option.bind_eq_some_iff.mp hf
      refine zEv_call 4 (N := 14) (vs := [.ref 2, .int v2]) (v1 := some (.int x222)) (h1 := zHp I) (L := [some (.ref 2), none, some (.int v2), some (.int v3)]) (rest := [.int v2]) (pc := 18) (fun n => rfl) (s_Ga_neighboursOf_2 hx d (by omega)) rfl rfl ?_
      show zEv _ _ _ (18, [some (.ref 2), none, some (.int v2), some (.int v3)], [.int x222, .int v2]) _ _ _
      refine zEv_go 4 (f1 := (6, [some (.ref 2), none, some (.int (v2 ||| x222)), some (.int (v3 + 1))], [])) (h1 := zHp I) (fun n => rfl) ?_
      refine zEv_weak (L := [some (.ref 2), none, some (.int (v2 ||| x222)), some (.int (v3 + 1))]) (by exact ⟨rfl, ⟨rfl, ⟨rfl, ⟨rfl, trivial⟩⟩⟩⟩) ?_
      exact ih hf kk
def Ga_reachableFrom_2 (n : Nat) (a0 : Int32) (I : zI) : Option (Int32) :=
  (Ga_reachableFrom_2_L6 n (zShl 1 a0) 1 I).bind fun x223 =>
  some x223
theorem s_Ga_reachableFrom_2 {n : Nat} {a0 : Int32} {I : zI} {r : Int32} (hf : Ga_reachableFrom_2 n a0 I = some r) (d : Nat) (hd : 2 ≤ d) : zCall d 16 [.ref 2, .int a0] (zHp I) (some (.int r)) (zHp I) := by
  obtain ⟨d, rfl⟩ : ∃ e, d = e + 1 := ⟨d - 1, by omega⟩
  rw [Ga_reachableFrom_2] at hf
  show zEv _ _ _ (0, [some (.ref 2), some (.int a0), none, none], []) _ _ _
  obtain ⟨x223, hx, hf⟩ := Option.bind_eq_some_iff.mp hf
  refine zEv_go 6 (f1 := (6, [some (.ref 2), some (.int a0), some (.int (zShl 1 a0)), some (.int 1)], [])) (h1 := zHp I) (fun n => rfl) ?_
  refine zEv_weak (L := [some (.ref 2), none, some (.int (zShl 1 a0)), some (.int 1)]) (by exact ⟨rfl, ⟨rfl, ⟨rfl, ⟨rfl, trivial⟩⟩⟩⟩) (s_Ga_reachableFrom_2_L6 (d + 1) (by omega) n hx ?_)
  cases hf
  exact zEv_ret 2 (fun n => rfl)
def Rw_at_53  (a0 : Int32) (I : zI) : Option (Int32) :=
  if a0 < 0 then
    some (-6)
  else
    if 10 ≤ a0 then
      some (-6)
    else
      if zIn a0 10 then
        some (I 54 (Int32.toNatClampNeg a0))
      else none
theorem s_Rw_at_53  {a0 : Int32} {I : zI} {r : Int32} (hf : Rw_at_53 a0 I = some r) (d : Nat) (hd : 0 ≤ d) : zCall d 60 [.ref 53, .int a0] (zHp I) (some (.int r)) (zHp I) := by
  rw [Rw_at_53] at hf
  show zEv _ _ _ (0, [some (.ref 53), some (.int a0)], []) _ _ _
  refine zEv_if 2 (c := a0 < 0) (f1 := (22, [some (.ref 53), some (.int a0)], [])) (f2 := (4, [some (.ref 53), some (.int a0)], [])) (h1 := zHp I) (fun n => rfl) (fun hc => ?_) (fun hc => ?_)
  · rw [if_pos hc] at hf
    cases hf
    exact zEv_ret 2 (fun n => rfl)
  · rw [if_neg hc] at hf
    refine zEv_if 5 (c := 10 ≤ a0) (f1 := (22, [some (.ref 53), some (.int a0)], [])) (f2 := (13, [some (.ref 53), some (.int a0)], [])) (h1 := zHp I) (fun n => rfl) (fun hc => ?_) (fun hc => ?_)
    · rw [if_pos hc] at hf
      cases hf
      exact zEv_ret 2 (fun n => rfl)
    · rw [if_neg hc] at hf
      obtain ⟨hc, hf⟩ := zGd_inv hf
      refine zEv_gd 4 (c := zIn a0 10) (f1 := (19, [some (.ref 53), some (.int a0)], [.int (I 54 (Int32.toNatClampNeg a0))])) (h1 := zHp I) (fun n => rfl) hc ?_
      cases hf
      exact zEv_ret 2 (fun n => rfl)
def Rw_put_55  (a0 : Int32) (a1 : Int32) (I : zI) : Option (zI) :=
  if a0 < 0 then
    some I
  else
    if 100 ≤ a0 then
      some I
    else
      if zIn a0 100 then
        some (zUp I 56 (Int32.toNatClampNeg a0) a1)
      else none
theorem s_Rw_put_55  {a0 : Int32} {a1 : Int32} {I : zI} {I' : zI} (hf : Rw_put_55 a0 a1 I = some I') (d : Nat) (hd : 0 ≤ d) : zCall d 61 [.ref 55, .int a0, .int a1] (zHp I) (none) (zHp I') := by
  rw [Rw_put_55] at hf
  show zEv _ _ _ (0, [some (.ref 55), some (.int a0), some (.int a1)], []) _ _ _
  refine zEv_if 2 (c := a0 < 0) (f1 := (20, [some (.ref 55), some (.int a0), some (.int a1)], [])) (f2 := (4, [some (.ref 55), some (.int a0), some (.int a1)], [])) (h1 := zHp I) (fun n => rfl) (fun hc => ?_) (fun hc => ?_)
  · rw [if_pos hc] at hf
    cases hf
    exact zEv_ret 1 (fun n => rfl)
  · rw [if_neg hc] at hf
    refine zEv_if 5 (c := 100 ≤ a0) (f1 := (20, [some (.ref 55), some (.int a0), some (.int a1)], [])) (f2 := (13, [some (.ref 55), some (.int a0), some (.int a1)], [])) (h1 := zHp I) (fun n => rfl) (fun hc => ?_) (fun hc => ?_)
    · rw [if_pos hc] at hf
      cases hf
      exact zEv_ret 1 (fun n => rfl)
    · rw [if_neg hc] at hf
      obtain ⟨hc, hf⟩ := zGd_inv hf
      refine zEv_gd 5 (c := zIn a0 100) (f1 := (20, [some (.ref 55), some (.int a0), some (.int a1)], [])) (h1 := zHp (zUp I 56 (Int32.toNatClampNeg a0) a1)) (fun n => rfl) hc ?_
      cases hf
      exact zEv_ret 1 (fun n => rfl)
def Rd_measureLegs_2_L10 : Nat → Int32 → Int32 → zI → Option (zI)
  | 0, _, _, _ => none
  | n + 1, v2, v3, I =>
    if 10 ≤ v3 then
      some I
    else
      (
        if v2 < (I 52 3) then
          if v3 < (I 52 3) then
            some 1
          else
            if v3 = 9 then
              some 1
            else
              some 0
        else
          if v2 = 9 then
            if v3 < (I 52 3) then
              some 1
            else
              if v3 = 9 then
                some 1
              else
                some 0
          else
            some 0 : Option (Int32)).bind fun x226 =>
      (
        if x226 = 0 then
          some I
        else
          (Rw_at_53 v2 I).bind fun x228 =>
          (Rw_at_53 v3 I).bind fun x229 =>
          (Ga_stepsBetween_2 n x228 x229 I).bind fun x230 =>
          (Rw_put_55 ((v2 * 10) + v3) x230 I).bind fun I231 =>
          some I231 : Option (zI)).bind fun I232 =>
      Rd_measureLegs_2_L10 n v2 (v3 + 1) I232
theorem s_Rd_measureLegs_2_L10 (d : Nat) (hd : 3 ≤ d) : ∀ (n : Nat) {v2 : Int32} {v3 : Int32} {I : zI}  {I' : zI} {v : Option Value} {h' : zH}, Rd_measureLegs_2_L10 n v2 v3 I = some I' → zEv none d 57 (95, [some (.ref 52), some (.ref 2), some (.int v2), none, none], []) (zHp I') v h' → zEv none d 57 (10, [some (.ref 52), some (.ref 2), some (.int v2), some (.int v3), none], []) (zHp I) v h' := by
  obtain ⟨d, rfl⟩ : ∃ e, d = e + 1 := ⟨d - 1, by omega⟩
  intro n
  induction n with
  | zero => intros; rename_i hf _; cases hf
  | succ n ih =>
    intro v2 v3 I I' v h' hf kk
    rw [Rd_measureLegs_2_L10] at hf
    refine zEv_if 3 (c := 10 ≤ v3) (f1 := (95, [some (.ref 52), some (.ref 2), some (.int v2), some (.int v3), none], [])) (f2 := (16, [some (.ref 52), some (.ref 2), some (.int v2), some (.int v3), none], [])) (h1 := zHp I) (fun n => rfl) (fun hc => ?_) (fun hc => ?_)
    · rw [if_pos hc] at hf
      obtain rfl := Option.some.inj hf
      exact zEv_weak (L := [some (.ref 52), some (.ref 2), some (.int v2), none, none]) (by exact ⟨rfl, ⟨rfl, ⟨rfl, ⟨rfl, ⟨rfl, trivial⟩⟩⟩⟩⟩) kk
    · rw [if_neg hc] at hf
      obtain ⟨x226, hm_m225, hf⟩ := Option.bind_eq_some_iff.mp hf
      have hJ_m225 : zEv none (d + 1) 57 (49, [some (.ref 52), some (.ref 2), some (.int v2), some (.int v3), none], [.int x226]) (zHp I) v h' := by
        obtain ⟨I232, hm_m227, hf⟩ := Option.bind_eq_some_iff.mp hf
        have hJ_m227 : zEv none (d + 1) 57 (89, [some (.ref 52), some (.ref 2), some (.int v2), some (.int v3), none], []) (zHp I232) v h' := by
          refine zEv_go 2 (f1 := (10, [some (.ref 52), some (.ref 2), some (.int v2), some (.int (v3 + 1)), none], [])) (h1 := zHp I232) (fun n => rfl) ?_
          refine zEv_weak (L := [some (.ref 52), some (.ref 2), some (.int v2), some (.int (v3 + 1)), none]) (by exact ⟨rfl, ⟨rfl, ⟨rfl, ⟨rfl, ⟨rfl, trivial⟩⟩⟩⟩⟩) ?_
          exact ih hf kk
        clear hf
        refine zEv_if 3 (c := x226 = 0) (f1 := (89, [some (.ref 52), some (.ref 2), some (.int v2), some (.int v3), some (.int x226)], [])) (f2 := (56, [some (.ref 52), some (.ref 2), some (.int v2), some (.int v3), some (.int x226)], [])) (h1 := zHp I) (fun n => rfl) (fun hc => ?_) (fun hc => ?_)
        · rw [if_pos hc] at hm_m227
          obtain rfl := Option.some.inj hm_m227
          exact zEv_weak (L := [some (.ref 52), some (.ref 2), some (.int v2), some (.int v3), none]) (by exact ⟨rfl, ⟨rfl, ⟨rfl, ⟨rfl, ⟨rfl, trivial⟩⟩⟩⟩⟩) hJ_m227
        · rw [if_neg hc] at hm_m227
          obtain ⟨x228, hx, hm_m227⟩ := Option.bind_eq_some_iff.mp hm_m227
          refine zEv_call 12 (N := 60) (vs := [.ref 53, .int v2]) (v1 := some (.int x228)) (h1 := zHp I) (L := [some (.ref 52), some (.ref 2), some (.int v2), some (.int v3), some (.int x226)]) (rest := [.ref 2, .int ((v2 * 10) + v3), .ref 55]) (pc := 75) (fun n => rfl) (s_Rw_at_53 hx d (by omega)) rfl rfl ?_
          show zEv _ _ _ (75, [some (.ref 52), some (.ref 2), some (.int v2), some (.int v3), some (.int x226)], [.int x228, .ref 2, .int ((v2 * 10) + v3), .ref 55]) _ _ _
          obtain ⟨x229, hx, hm_m227⟩ := Option.bind_eq_some_iff.mp hm_m227
          refine zEv_call 4 (N := 60) (vs := [.ref 53, .int v3]) (v1 := some (.int x229)) (h1 := zHp I) (L := [some (.ref 52), some (.ref 2), some (.int v2), some (.int v3), some (.int x226)]) (rest := [.int x228, .ref 2, .int ((v2 * 10) + v3), .ref 55]) (pc := 83) (fun n => rfl) (s_Rw_at_53 hx d (by omega)) rfl rfl ?_
          show zEv _ _ _ (83, [some (.ref 52), some (.ref 2), some (.int v2), some (.int v3), some (.int x226)], [.int x229, .int x228, .ref 2, .int ((v2 * 10) + v3), .ref 55]) _ _ _
          obtain ⟨x230, hx, hm_m227⟩ := Option.bind_eq_some_iff.mp hm_m227
          refine zEv_call 1 (N := 15) (vs := [.ref 2, .int x228, .int x229]) (v1 := some (.int x230)) (h1 := zHp I) (L := [some (.ref 52), some (.ref 2), some (.int v2), some (.int v3), some (.int x226)]) (rest := [.int ((v2 * 10) + v3), .ref 55]) (pc := 86) (fun n => rfl) (s_Ga_stepsBetween_2 hx d (by omega)) rfl rfl ?_
          show zEv _ _ _ (86, [some (.ref 52), some (.ref 2), some (.int v2), some (.int v3), some (.int x226)], [.int x230, .int ((v2 * 10) + v3), .ref 55]) _ _ _
          obtain ⟨I231, hx, hm_m227⟩ := Option.bind_eq_some_iff.mp hm_m227
          refine zEv_call 1 (N := 61) (vs := [.ref 55, .int ((v2 * 10) + v3), .int x230]) (v1 := none) (h1 := zHp I231) (L := [some (.ref 52), some (.ref 2), some (.int v2), some (.int v3), some (.int x226)]) (rest := []) (pc := 89) (fun n => rfl) (s_Rw_put_55 hx d (by omega)) rfl rfl ?_
          show zEv _ _ _ (89, [some (.ref 52), some (.ref 2), some (.int v2), some (.int v3), some (.int x226)], []) _ _ _
          obtain rfl := Option.some.inj hm_m227
          exact zEv_weak (L := [some (.ref 52), some (.ref 2), some (.int v2), some (.int v3), none]) (by exact ⟨rfl, ⟨rfl, ⟨rfl, ⟨rfl, ⟨rfl, trivial⟩⟩⟩⟩⟩) hJ_m227
      clear hf
      refine zEv_if 4 (c := v2 < (I 52 3)) (f1 := (30, [some (.ref 52), some (.ref 2), some (.int v2), some (.int v3), none], [])) (f2 := (24, [some (.ref 52), some (.ref 2), some (.int v2), some (.int v3), none], [])) (h1 := zHp I) (fun n => rfl) (fun hc => ?_) (fun hc => ?_)
      · rw [if_pos hc] at hm_m225
        refine zEv_if 4 (c := v3 < (I 52 3)) (f1 := (44, [some (.ref 52), some (.ref 2), some (.int v2), some (.int v3), none], [])) (f2 := (38, [some (.ref 52), some (.ref 2), some (.int v2), some (.int v3), none], [])) (h1 := zHp I) (fun n => rfl) (fun hc => ?_) (fun hc => ?_)
        · rw [if_pos hc] at hm_m225
          obtain rfl := Option.some.inj hm_m225
          refine zEv_go 2 (f1 := (49, [some (.ref 52), some (.ref 2), some (.int v2), some (.int v3), none], [.int 1])) (h1 := zHp I) (fun n => rfl) ?_
          exact zEv_weak (L := [some (.ref 52), some (.ref 2), some (.int v2), some (.int v3), none]) (by exact ⟨rfl, ⟨rfl, ⟨rfl, ⟨rfl, ⟨rfl, trivial⟩⟩⟩⟩⟩) hJ_m225
        · rw [if_neg hc] at hm_m225
          refine zEv_if 3 (c := v3 = 9) (f1 := (44, [some (.ref 52), some (.ref 2), some (.int v2), some (.int v3), none], [])) (f2 := (48, [some (.ref 52), some (.ref 2), some (.int v2), some (.int v3), none], [])) (h1 := zHp I) (fun n => rfl) (fun hc => ?_) (fun hc => ?_)
          · rw [if_pos hc] at hm_m225
            obtain rfl := Option.some.inj hm_m225
            refine zEv_go 2 (f1 := (49, [some (.ref 52), some (.ref 2), some (.int v2), some (.int v3), none], [.int 1])) (h1 := zHp I) (fun n => rfl) ?_
            exact zEv_weak (L := [some (.ref 52), some (.ref 2), some (.int v2), some (.int v3), none]) (by exact ⟨rfl, ⟨rfl, ⟨rfl, ⟨rfl, ⟨rfl, trivial⟩⟩⟩⟩⟩) hJ_m225
          · rw [if_neg hc] at hm_m225
            obtain rfl := Option.some.inj hm_m225
            refine zEv_go 1 (f1 := (49, [some (.ref 52), some (.ref 2), some (.int v2), some (.int v3), none], [.int 0])) (h1 := zHp I) (fun n => rfl) ?_
            exact zEv_weak (L := [some (.ref 52), some (.ref 2), some (.int v2), some (.int v3), none]) (by exact ⟨rfl, ⟨rfl, ⟨rfl, ⟨rfl, ⟨rfl, trivial⟩⟩⟩⟩⟩) hJ_m225
      · rw [if_neg hc] at hm_m225
        refine zEv_if 3 (c := v2 = 9) (f1 := (30, [some (.ref 52), some (.ref 2), some (.int v2), some (.int v3), none], [])) (f2 := (48, [some (.ref 52), some (.ref 2), some (.int v2), some (.int v3), none], [])) (h1 := zHp I) (fun n => rfl) (fun hc => ?_) (fun hc => ?_)
        · rw [if_pos hc] at hm_m225
          refine zEv_if 4 (c := v3 < (I 52 3)) (f1 := (44, [some (.ref 52), some (.ref 2), some (.int v2), some (.int v3), none], [])) (f2 := (38, [some (.ref 52), some (.ref 2), some (.int v2), some (.int v3), none], [])) (h1 := zHp I) (fun n => rfl) (fun hc => ?_) (fun hc => ?_)
          · rw [if_pos hc] at hm_m225
            obtain rfl := Option.some.inj hm_m225
            refine zEv_go 2 (f1 := (49, [some (.ref 52), some (.ref 2), some (.int v2), some (.int v3), none], [.int 1])) (h1 := zHp I) (fun n => rfl) ?_
            exact zEv_weak (L := [some (.ref 52), some (.ref 2), some (.int v2), some (.int v3), none]) (by exact ⟨rfl, ⟨rfl, ⟨rfl, ⟨rfl, ⟨rfl, trivial⟩⟩⟩⟩⟩) hJ_m225
          · rw [if_neg hc] at hm_m225
            refine zEv_if 3 (c := v3 = 9) (f1 := (44, [some (.ref 52), some (.ref 2), some (.int v2), some (.int v3), none], [])) (f2 := (48, [some (.ref 52), some (.ref 2), some (.int v2), some (.int v3), none], [])) (h1 := zHp I) (fun n => rfl) (fun hc => ?_) (fun hc => ?_)
            · rw [if_pos hc] at hm_m225
              obtain rfl := Option.some.inj hm_m225
              refine zEv_go 2 (f1 := (49, [some (.ref 52), some (.ref 2), some (.int v2), some (.int v3), none], [.int 1])) (h1 := zHp I) (fun n => rfl) ?_
              exact zEv_weak (L := [some (.ref 52), some (.ref 2), some (.int v2), some (.int v3), none]) (by exact ⟨rfl, ⟨rfl, ⟨rfl, ⟨rfl, ⟨rfl, trivial⟩⟩⟩⟩⟩) hJ_m225
            · rw [if_neg hc] at hm_m225
              obtain rfl := Option.some.inj hm_m225
              refine zEv_go 1 (f1 := (49, [some (.ref 52), some (.ref 2), some (.int v2), some (.int v3), none], [.int 0])) (h1 := zHp I) (fun n => rfl) ?_
              exact zEv_weak (L := [some (.ref 52), some (.ref 2), some (.int v2), some (.int v3), none]) (by exact ⟨rfl, ⟨rfl, ⟨rfl, ⟨rfl, ⟨rfl, trivial⟩⟩⟩⟩⟩) hJ_m225
        · rw [if_neg hc] at hm_m225
          obtain rfl := Option.some.inj hm_m225
          refine zEv_go 1 (f1 := (49, [some (.ref 52), some (.ref 2), some (.int v2), some (.int v3), none], [.int 0])) (h1 := zHp I) (fun n => rfl) ?_
          exact zEv_weak (L := [some (.ref 52), some (.ref 2), some (.int v2), some (.int v3), none]) (by exact ⟨rfl, ⟨rfl, ⟨rfl, ⟨rfl, ⟨rfl, trivial⟩⟩⟩⟩⟩) hJ_m225
def Rd_measureLegs_2_L2 : Nat → Int32 → zI → Option (zI)
  | 0, _, _ => none
  | n + 1, v2, I =>
    if 10 ≤ v2 then
      some I
    else
      (Rd_measureLegs_2_L10 n v2 0 I).bind fun I233 =>
      Rd_measureLegs_2_L2 n (v2 + 1) I233
theorem s_Rd_measureLegs_2_L2 (d : Nat) (hd : 3 ≤ d) : ∀ (n : Nat) {v2 : Int32} {I : zI}  {I' : zI} {v : Option Value} {h' : zH}, Rd_measureLegs_2_L2 n v2 I = some I' → zEv none d 57 (101, [some (.ref 52), some (.ref 2), none, none, none], []) (zHp I') v h' → zEv none d 57 (2, [some (.ref 52), some (.ref 2), some (.int v2), none, none], []) (zHp I) v h' := by
  obtain ⟨d, rfl⟩ : ∃ e, d = e + 1 := ⟨d - 1, by omega⟩
  intro n
  induction n with
  | zero => intros; rename_i hf _; cases hf
  | succ n ih =>
    intro v2 I I' v h' hf kk
    rw [Rd_measureLegs_2_L2] at hf
    refine zEv_if 3 (c := 10 ≤ v2) (f1 := (101, [some (.ref 52), some (.ref 2), some (.int v2), none, none], [])) (f2 := (8, [some (.ref 52), some (.ref 2), some (.int v2), none, none], [])) (h1 := zHp I) (fun n => rfl) (fun hc => ?_) (fun hc => ?_)
    · rw [if_pos hc] at hf
      obtain rfl := Option.some.inj hf
      exact zEv_weak (L := [some (.ref 52), some (.ref 2), none, none, none]) (by exact ⟨rfl, ⟨rfl, ⟨rfl, ⟨rfl, ⟨rfl, trivial⟩⟩⟩⟩⟩) kk
    · rw [if_neg hc] at hf
      obtain ⟨I233, hx, hf⟩ := Option.bind_eq_some_iff.mp hf
      refine zEv_go 2 (f1 := (10, [some (.ref 52), some (.ref 2), some (.int v2), some (.int 0), none], [])) (h1 := zHp I) (fun n => rfl) ?_
      refine zEv_weak (L := [some (.ref 52), some (.ref 2), some (.int v2), some (.int 0), none]) (by exact ⟨rfl, ⟨rfl, ⟨rfl, ⟨rfl, ⟨rfl, trivial⟩⟩⟩⟩⟩) (s_Rd_measureLegs_2_L10 (d + 1) (by omega) n hx ?_)
      refine zEv_go 2 (f1 := (2, [some (.ref 52), some (.ref 2), some (.int (v2 + 1)), none, none], [])) (h1 := zHp I233) (fun n => rfl) ?_
      refine zEv_weak (L := [some (.ref 52), some (.ref 2), some (.int (v2 + 1)), none, none]) (by exact ⟨rfl, ⟨rfl, ⟨rfl, ⟨rfl, ⟨rfl, trivial⟩⟩⟩⟩⟩) ?_
      exact ih hf kk
def Rd_measureLegs_2 (n : Nat) (I : zI) : Option (zI) :=
  (Rd_measureLegs_2_L2 n 0 I).bind fun I234 =>
  some I234
theorem s_Rd_measureLegs_2 {n : Nat} {I : zI} {I' : zI} (hf : Rd_measureLegs_2 n I = some I') (d : Nat) (hd : 3 ≤ d) : zCall d 57 [.ref 52, .ref 2] (zHp I) (none) (zHp I') := by
  obtain ⟨d, rfl⟩ : ∃ e, d = e + 1 := ⟨d - 1, by omega⟩
  rw [Rd_measureLegs_2] at hf
  show zEv _ _ _ (0, [some (.ref 52), some (.ref 2), none, none, none], []) _ _ _
  obtain ⟨I234, hx, hf⟩ := Option.bind_eq_some_iff.mp hf
  refine zEv_go 2 (f1 := (2, [some (.ref 52), some (.ref 2), some (.int 0), none, none], [])) (h1 := zHp I) (fun n => rfl) ?_
  refine zEv_weak (L := [some (.ref 52), some (.ref 2), some (.int 0), none, none]) (by exact ⟨rfl, ⟨rfl, ⟨rfl, ⟨rfl, ⟨rfl, trivial⟩⟩⟩⟩⟩) (s_Rd_measureLegs_2_L2 (d + 1) (by omega) n hx ?_)
  cases hf
  exact zEv_ret 1 (fun n => rfl)
