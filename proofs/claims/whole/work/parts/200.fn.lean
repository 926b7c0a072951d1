def BM_isWithin  (a0 : Int32) (a1 : Int32) (a2 : Int32) (I : zI) : Option (Int32) :=
  if a0 < a1 then
    some 0
  else
    if a2 < a0 then
      some 0
    else
      some 1
theorem s_BM_isWithin  {a0 : Int32} {a1 : Int32} {a2 : Int32} {I : zI} {r : Int32} (hf : BM_isWithin a0 a1 a2 I = some r) (d : Nat) (hd : 0 ≤ d) : zCall d 109 [.int a0, .int a1, .int a2] (zHp I) (some (.int r)) (zHp I) := by
  rw [BM_isWithin] at hf
  show zEv _ _ _ (0, [some (.int a0), some (.int a1), some (.int a2)], []) _ _ _
  refine zEv_if 3 (c := a0 < a1) (f1 := (14, [some (.int a0), some (.int a1), some (.int a2)], [])) (f2 := (5, [some (.int a0), some (.int a1), some (.int a2)], [])) (h1 := zHp I) (fun n => rfl) (fun hc => ?_) (fun hc => ?_)
  · rw [if_pos hc] at hf
    cases hf
    exact zEv_ret 2 (fun n => rfl)
  · rw [if_neg hc] at hf
    refine zEv_if 3 (c := a2 < a0) (f1 := (14, [some (.int a0), some (.int a1), some (.int a2)], [])) (f2 := (10, [some (.int a0), some (.int a1), some (.int a2)], [])) (h1 := zHp I) (fun n => rfl) (fun hc => ?_) (fun hc => ?_)
    · rw [if_pos hc] at hf
      cases hf
      exact zEv_ret 2 (fun n => rfl)
    · rw [if_neg hc] at hf
      cases hf
      exact zEv_ret 3 (fun n => rfl)
def BM_isBench  (a0 : Int32) (I : zI) : Option (Int32) :=
  (BM_isWithin a0 0 9 I).bind fun x1 =>
  if x1 = 0 ∨ x1 = 1 then some x1 else none
theorem s_BM_isBench  {a0 : Int32} {I : zI} {r : Int32} (hf : BM_isBench a0 I = some r) (d : Nat) (hd : 1 ≤ d) : zCall d 110 [.int a0] (zHp I) (some (.int r)) (zHp I) := by
  obtain ⟨d, rfl⟩ : ∃ e, d = e + 1 := ⟨d - 1, by omega⟩
  rw [BM_isBench] at hf
  show zEv _ _ _ (0, [some (.int a0)], []) _ _ _
  obtain ⟨x1, hx, hf⟩ := Option.bind_eq_some_iff.mp hf
  refine zEv_call 4 (N := 109) (vs := [.int a0, .int 0, .int 9]) (v1 := some (.int x1)) (h1 := zHp I) (L := [some (.int a0)]) (rest := []) (pc := 7) (fun n => rfl) (s_BM_isWithin hx d (by omega)) rfl rfl ?_
  show zEv _ _ _ (7, [some (.int a0)], [.int x1]) _ _ _
  obtain ⟨hc, hf⟩ := zGd_inv hf
  cases hf
  exact zEv_rt hc 1 (fun n => rfl)
def Rw_at_3  (a0 : Int32) (I : zI) : Option (Int32) :=
  if a0 < 0 then
    some (-6)
  else
    if 10 ≤ a0 then
      some (-6)
    else
      if zIn a0 10 then
        some (I 4 (Int32.toNatClampNeg a0))
      else none
theorem s_Rw_at_3  {a0 : Int32} {I : zI} {r : Int32} (hf : Rw_at_3 a0 I = some r) (d : Nat) (hd : 0 ≤ d) : zCall d 60 [.ref 3, .int a0] (zHp I) (some (.int r)) (zHp I) := by
  rw [Rw_at_3] at hf
  show zEv _ _ _ (0, [some (.ref 3), some (.int a0)], []) _ _ _
  refine zEv_if 2 (c := a0 < 0) (f1 := (22, [some (.ref 3), some (.int a0)], [])) (f2 := (4, [some (.ref 3), some (.int a0)], [])) (h1 := zHp I) (fun n => rfl) (fun hc => ?_) (fun hc => ?_)
  · rw [if_pos hc] at hf
    cases hf
    exact zEv_ret 2 (fun n => rfl)
  · rw [if_neg hc] at hf
    refine zEv_if 5 (c := 10 ≤ a0) (f1 := (22, [some (.ref 3), some (.int a0)], [])) (f2 := (13, [some (.ref 3), some (.int a0)], [])) (h1 := zHp I) (fun n => rfl) (fun hc => ?_) (fun hc => ?_)
    · rw [if_pos hc] at hf
      cases hf
      exact zEv_ret 2 (fun n => rfl)
    · rw [if_neg hc] at hf
      obtain ⟨hc, hf⟩ := zGd_inv hf
      refine zEv_gd 4 (c := zIn a0 10) (f1 := (19, [some (.ref 3), some (.int a0)], [.int (I 4 (Int32.toNatClampNeg a0))])) (h1 := zHp I) (fun n => rfl) hc ?_
      cases hf
      exact zEv_ret 2 (fun n => rfl)
def Rw_put_3  (a0 : Int32) (a1 : Int32) (I : zI) : Option (zI) :=
  if a0 < 0 then
    some I
  else
    if 10 ≤ a0 then
      some I
    else
      if zIn a0 10 then
        some (zUp I 4 (Int32.toNatClampNeg a0) a1)
      else none
theorem s_Rw_put_3  {a0 : Int32} {a1 : Int32} {I : zI} {I' : zI} (hf : Rw_put_3 a0 a1 I = some I') (d : Nat) (hd : 0 ≤ d) : zCall d 61 [.ref 3, .int a0, .int a1] (zHp I) (none) (zHp I') := by
  rw [Rw_put_3] at hf
  show zEv _ _ _ (0, [some (.ref 3), some (.int a0), some (.int a1)], []) _ _ _
  refine zEv_if 2 (c := a0 < 0) (f1 := (20, [some (.ref 3), some (.int a0), some (.int a1)], [])) (f2 := (4, [some (.ref 3), some (.int a0), some (.int a1)], [])) (h1 := zHp I) (fun n => rfl) (fun hc => ?_) (fun hc => ?_)
  · rw [if_pos hc] at hf
    cases hf
    exact zEv_ret 1 (fun n => rfl)
  · rw [if_neg hc] at hf
    refine zEv_if 5 (c := 10 ≤ a0) (f1 := (20, [some (.ref 3), some (.int a0), some (.int a1)], [])) (f2 := (13, [some (.ref 3), some (.int a0), some (.int a1)], [])) (h1 := zHp I) (fun n => rfl) (fun hc => ?_) (fun hc => ?_)
    · rw [if_pos hc] at hf
      cases hf
      exact zEv_ret 1 (fun n => rfl)
    · rw [if_neg hc] at hf
      obtain ⟨hc, hf⟩ := zGd_inv hf
      refine zEv_gd 5 (c := zIn a0 10) (f1 := (20, [some (.ref 3), some (.int a0), some (.int a1)], [])) (h1 := zHp (zUp I 4 (Int32.toNatClampNeg a0) a1)) (fun n => rfl) hc ?_
      cases hf
      exact zEv_ret 1 (fun n => rfl)
def Ga_setWay_2  (a0 : Int32) (a1 : Int32) (a2 : Int32) (I : zI) : Option (zI) :=
  (Rw_at_3 a0 I).bind fun x4 =>
  (Rw_at_3 a1 I).bind fun x5 =>
  (
    if a2 = 0 then
      some (x4 &&& ((zShl 1 a1) ^^^ (-1)))
    else
      some ((x4 &&& ((zShl 1 a1) ^^^ (-1))) ||| (zShl 1 a1)) : Option (Int32)).bind fun x7 =>
  (Rw_put_3 a0 x7 I).bind fun I8 =>
  (
    if a2 = 0 then
      some (x5 &&& ((zShl 1 a0) ^^^ (-1)))
    else
      some ((x5 &&& ((zShl 1 a0) ^^^ (-1))) ||| (zShl 1 a0)) : Option (Int32)).bind fun x10 =>
  (Rw_put_3 a1 x10 I8).bind fun I11 =>
  some I11
theorem s_Ga_setWay_2  {a0 : Int32} {a1 : Int32} {a2 : Int32} {I : zI} {I' : zI} (hf : Ga_setWay_2 a0 a1 a2 I = some I') (d : Nat) (hd : 1 ≤ d) : zCall d 12 [.ref 2, .int a0, .int a1, .int a2] (zHp I) (none) (zHp I') := by
  obtain ⟨d, rfl⟩ : ∃ e, d = e + 1 := ⟨d - 1, by omega⟩
  rw [Ga_setWay_2] at hf
  show zEv _ _ _ (0, [some (.ref 2), some (.int a0), some (.int a1), some (.int a2), none, none], []) _ _ _
  obtain ⟨x4, hx, hf⟩ := Option.bind_eq_some_iff.mp hf
  refine zEv_call 4 (N := 60) (vs := [.ref 3, .int a0]) (v1 := some (.int x4)) (h1 := zHp I) (L := [some (.ref 2), some (.int a0), some (.int a1), some (.int a2), none, none]) (rest := []) (pc := 8) (fun n => rfl) (s_Rw_at_3 hx d (by omega)) rfl rfl ?_
  show zEv _ _ _ (8, [some (.ref 2), some (.int a0), some (.int a1), some (.int a2), none, none], [.int x4]) _ _ _
  obtain ⟨x5, hx, hf⟩ := Option.bind_eq_some_iff.mp hf
  refine zEv_call 11 (N := 60) (vs := [.ref 3, .int a1]) (v1 := some (.int x5)) (h1 := zHp I) (L := [some (.ref 2), some (.int a0), some (.int a1), some (.int a2), some (.int (x4 &&& ((zShl 1 a1) ^^^ (-1)))), none]) (rest := []) (pc := 24) (fun n => rfl) (s_Rw_at_3 hx d (by omega)) rfl rfl ?_
  show zEv _ _ _ (24, [some (.ref 2), some (.int a0), some (.int a1), some (.int a2), some (.int (x4 &&& ((zShl 1 a1) ^^^ (-1)))), none], [.int x5]) _ _ _
  obtain ⟨x7, hm_m6, hf⟩ := Option.bind_eq_some_iff.mp hf
  have hJ_m6 : zEv none (d + 1) 12 (52, [some (.ref 2), some (.int a0), some (.int a1), some (.int a2), none, some (.int (x5 &&& ((zShl 1 a0) ^^^ (-1))))], [.int x7, .int a0, .ref 3]) (zHp I) (none) (zHp I') := by
    obtain ⟨I8, hx, hf⟩ := Option.bind_eq_some_iff.mp hf
    refine zEv_call 1 (N := 61) (vs := [.ref 3, .int a0, .int x7]) (v1 := none) (h1 := zHp I8) (L := [some (.ref 2), some (.int a0), some (.int a1), some (.int a2), none, some (.int (x5 &&& ((zShl 1 a0) ^^^ (-1))))]) (rest := []) (pc := 55) (fun n => rfl) (s_Rw_put_3 hx d (by omega)) rfl rfl ?_
    show zEv _ _ _ (55, [some (.ref 2), some (.int a0), some (.int a1), some (.int a2), none, some (.int (x5 &&& ((zShl 1 a0) ^^^ (-1))))], []) _ _ _
    obtain ⟨x10, hm_m9, hf⟩ := Option.bind_eq_some_iff.mp hf
    have hJ_m9 : zEv none (d + 1) 12 (75, [some (.ref 2), none, none, none, none, none], [.int x10, .int a1, .ref 3]) (zHp I8) (none) (zHp I') := by
      obtain ⟨I11, hx, hf⟩ := Option.bind_eq_some_iff.mp hf
      refine zEv_call 1 (N := 61) (vs := [.ref 3, .int a1, .int x10]) (v1 := none) (h1 := zHp I11) (L := [some (.ref 2), none, none, none, none, none]) (rest := []) (pc := 78) (fun n => rfl) (s_Rw_put_3 hx d (by omega)) rfl rfl ?_
      show zEv _ _ _ (78, [some (.ref 2), none, none, none, none, none], []) _ _ _
      cases hf
      exact zEv_ret 1 (fun n => rfl)
    clear hf
    refine zEv_if 5 (c := a2 = 0) (f1 := (73, [some (.ref 2), some (.int a0), some (.int a1), some (.int a2), none, some (.int (x5 &&& ((zShl 1 a0) ^^^ (-1))))], [.int a1, .ref 3])) (f2 := (64, [some (.ref 2), some (.int a0), some (.int a1), some (.int a2), none, some (.int (x5 &&& ((zShl 1 a0) ^^^ (-1))))], [.int a1, .ref 3])) (h1 := zHp I8) (fun n => rfl) (fun hc => ?_) (fun hc => ?_)
    · rw [if_pos hc] at hm_m9
      obtain rfl := Option.some.inj hm_m9
      refine zEv_go 1 (f1 := (75, [some (.ref 2), some (.int a0), some (.int a1), some (.int a2), none, some (.int (x5 &&& ((zShl 1 a0) ^^^ (-1))))], [.int (x5 &&& ((zShl 1 a0) ^^^ (-1))), .int a1, .ref 3])) (h1 := zHp I8) (fun n => rfl) ?_
      exact zEv_weak (L := [some (.ref 2), none, none, none, none, none]) (by exact ⟨rfl, ⟨rfl, ⟨rfl, ⟨rfl, ⟨rfl, ⟨rfl, trivial⟩⟩⟩⟩⟩⟩) hJ_m9
    · rw [if_neg hc] at hm_m9
      obtain rfl := Option.some.inj hm_m9
      refine zEv_go 6 (f1 := (75, [some (.ref 2), some (.int a0), some (.int a1), some (.int a2), none, some (.int (x5 &&& ((zShl 1 a0) ^^^ (-1))))], [.int ((x5 &&& ((zShl 1 a0) ^^^ (-1))) ||| (zShl 1 a0)), .int a1, .ref 3])) (h1 := zHp I8) (fun n => rfl) ?_
      exact zEv_weak (L := [some (.ref 2), none, none, none, none, none]) (by exact ⟨rfl, ⟨rfl, ⟨rfl, ⟨rfl, ⟨rfl, ⟨rfl, trivial⟩⟩⟩⟩⟩⟩) hJ_m9
  clear hf
  refine zEv_if 12 (c := a2 = 0) (f1 := (50, [some (.ref 2), some (.int a0), some (.int a1), some (.int a2), some (.int (x4 &&& ((zShl 1 a1) ^^^ (-1)))), some (.int (x5 &&& ((zShl 1 a0) ^^^ (-1))))], [.int a0, .ref 3])) (f2 := (41, [some (.ref 2), some (.int a0), some (.int a1), some (.int a2), some (.int (x4 &&& ((zShl 1 a1) ^^^ (-1)))), some (.int (x5 &&& ((zShl 1 a0) ^^^ (-1))))], [.int a0, .ref 3])) (h1 := zHp I) (fun n => rfl) (fun hc => ?_) (fun hc => ?_)
  · rw [if_pos hc] at hm_m6
    obtain rfl := Option.some.inj hm_m6
    refine zEv_go 1 (f1 := (52, [some (.ref 2), some (.int a0), some (.int a1), some (.int a2), some (.int (x4 &&& ((zShl 1 a1) ^^^ (-1)))), some (.int (x5 &&& ((zShl 1 a0) ^^^ (-1))))], [.int (x4 &&& ((zShl 1 a1) ^^^ (-1))), .int a0, .ref 3])) (h1 := zHp I) (fun n => rfl) ?_
    exact zEv_weak (L := [some (.ref 2), some (.int a0), some (.int a1), some (.int a2), none, some (.int (x5 &&& ((zShl 1 a0) ^^^ (-1))))]) (by exact ⟨rfl, ⟨rfl, ⟨rfl, ⟨rfl, ⟨rfl, ⟨rfl, trivial⟩⟩⟩⟩⟩⟩) hJ_m6
  · rw [if_neg hc] at hm_m6
    obtain rfl := Option.some.inj hm_m6
    refine zEv_go 6 (f1 := (52, [some (.ref 2), some (.int a0), some (.int a1), some (.int a2), some (.int (x4 &&& ((zShl 1 a1) ^^^ (-1)))), some (.int (x5 &&& ((zShl 1 a0) ^^^ (-1))))], [.int ((x4 &&& ((zShl 1 a1) ^^^ (-1))) ||| (zShl 1 a1)), .int a0, .ref 3])) (h1 := zHp I) (fun n => rfl) ?_
    exact zEv_weak (L := [some (.ref 2), some (.int a0), some (.int a1), some (.int a2), none, some (.int (x5 &&& ((zShl 1 a0) ^^^ (-1))))]) (by exact ⟨rfl, ⟨rfl, ⟨rfl, ⟨rfl, ⟨rfl, ⟨rfl, trivial⟩⟩⟩⟩⟩⟩) hJ_m6
def In_bitCount  (a0 : Int32) (I : zI) : Option (Int32) :=
  some ((((((((a0 - ((zUsh a0 1) &&& 1431655765)) &&& 858993459) + ((zUsh (a0 - ((zUsh a0 1) &&& 1431655765)) 2) &&& 858993459)) + (zUsh (((a0 - ((zUsh a0 1) &&& 1431655765)) &&& 858993459) + ((zUsh (a0 - ((zUsh a0 1) &&& 1431655765)) 2) &&& 858993459)) 4)) &&& 252645135) + (zUsh (((((a0 - ((zUsh a0 1) &&& 1431655765)) &&& 858993459) + ((zUsh (a0 - ((zUsh a0 1) &&& 1431655765)) 2) &&& 858993459)) + (zUsh (((a0 - ((zUsh a0 1) &&& 1431655765)) &&& 858993459) + ((zUsh (a0 - ((zUsh a0 1) &&& 1431655765)) 2) &&& 858993459)) 4)) &&& 252645135) 8)) + (zUsh ((((((a0 - ((zUsh a0 1) &&& 1431655765)) &&& 858993459) + ((zUsh (a0 - ((zUsh a0 1) &&& 1431655765)) 2) &&& 858993459)) + (zUsh (((a0 - ((zUsh a0 1) &&& 1431655765)) &&& 858993459) + ((zUsh (a0 - ((zUsh a0 1) &&& 1431655765)) 2) &&& 858993459)) 4)) &&& 252645135) + (zUsh (((((a0 - ((zUsh a0 1) &&& 1431655765)) &&& 858993459) + ((zUsh (a0 - ((zUsh a0 1) &&& 1431655765)) 2) &&& 858993459)) + (zUsh (((a0 - ((zUsh a0 1) &&& 1431655765)) &&& 858993459) + ((zUsh (a0 - ((zUsh a0 1) &&& 1431655765)) 2) &&& 858993459)) 4)) &&& 252645135) 8)) 16)) &&& 63)
theorem s_In_bitCount  {a0 : Int32} {I : zI} {r : Int32} (hf : In_bitCount a0 I = some r) (d : Nat) (hd : 0 ≤ d) : zCall d 196 [.int a0] (zHp I) (some (.int r)) (zHp I) := by
  rw [In_bitCount] at hf
  show zEv _ _ _ (0, [some (.int a0)], []) _ _ _
  cases hf
  exact zEv_ret 42 (fun n => rfl)
def Ga_countWays_2_L4 : Nat → Int32 → Int32 → zI → Option (Int32)
  | 0, _, _, _ => none
  | n + 1, v1, v2, I =>
    if 10 ≤ v2 then
      some v1
    else
      (Rw_at_3 v2 I).bind fun x13 =>
      (In_bitCount x13 I).bind fun x14 =>
      Ga_countWays_2_L4 n (v1 + x14) (v2 + 1) I
theorem s_Ga_countWays_2_L4 (d : Nat) (hd : 1 ≤ d) : ∀ (n : Nat) {v1 : Int32} {v2 : Int32} {I : zI} {y1 : Int32} {v : Option Value} {h' : zH}, Ga_countWays_2_L4 n v1 v2 I = some y1 → zEv none d 13 (30, [some (.ref 2), some (.int y1), none], []) (zHp I) v h' → zEv none d 13 (4, [some (.ref 2), some (.int v1), some (.int v2)], []) (zHp I) v h' := by
  obtain ⟨d, rfl⟩ : ∃ e, d = e + 1 := ⟨d - 1, by omega⟩
  intro n
  induction n with
  | zero => intros; rename_i hf _; cases hf
  | succ n ih =>
    intro v1 v2 I y1 v h' hf kk
    rw [Ga_countWays_2_L4] at hf
    refine zEv_if 3 (c := 10 ≤ v2) (f1 := (30, [some (.ref 2), some (.int v1), some (.int v2)], [])) (f2 := (10, [some (.ref 2), some (.int v1), some (.int v2)], [])) (h1 := zHp I) (fun n => rfl) (fun hc => ?_) (fun hc => ?_)
    · rw [if_pos hc] at hf
      obtain rfl := Option.some.inj hf
      exact zEv_weak (L := [some (.ref 2), some (.int v1), none]) (by exact ⟨rfl, ⟨rfl, ⟨rfl, trivial⟩⟩⟩) kk
    · rw [if_neg hc] at hf
      obtain ⟨x13, hx, hf⟩ := Option.bind_eq_some_iff.mp hf
      refine zEv_call 5 (N := 60) (vs := [.ref 3, .int v2]) (v1 := some (.int x13)) (h1 := zHp I) (L := [some (.ref 2), some (.int v1), some (.int v2)]) (rest := [.int v1]) (pc := 19) (fun n => rfl) (s_Rw_at_3 hx d (by omega)) rfl rfl ?_
      show zEv _ _ _ (19, [some (.ref 2), some (.int v1), some (.int v2)], [.int x13, .int v1]) _ _ _
      obtain ⟨x14, hx, hf⟩ := Option.bind_eq_some_iff.mp hf
      refine zEv_call 1 (N := 196) (vs := [.int x13]) (v1 := some (.int x14)) (h1 := zHp I) (L := [some (.ref 2), some (.int v1), some (.int v2)]) (rest := [.int v1]) (pc := 22) (fun n => rfl) (s_In_bitCount hx d (by omega)) rfl rfl ?_
      show zEv _ _ _ (22, [some (.ref 2), some (.int v1), some (.int v2)], [.int x14, .int v1]) _ _ _
      refine zEv_go 4 (f1 := (4, [some (.ref 2), some (.int (v1 + x14)), some (.int (v2 + 1))], [])) (h1 := zHp I) (fun n => rfl) ?_
      refine zEv_weak (L := [some (.ref 2), some (.int (v1 + x14)), some (.int (v2 + 1))]) (by exact ⟨rfl, ⟨rfl, ⟨rfl, trivial⟩⟩⟩) ?_
      exact ih hf kk
def Ga_countWays_2 (n : Nat) (I : zI) : Option (Int32) :=
  (Ga_countWays_2_L4 n 0 0 I).bind fun x15 =>
  some (x15 / 2)
theorem s_Ga_countWays_2 {n : Nat} {I : zI} {r : Int32} (hf : Ga_countWays_2 n I = some r) (d : Nat) (hd : 1 ≤ d) : zCall d 13 [.ref 2] (zHp I) (some (.int r)) (zHp I) := by
  obtain ⟨d, rfl⟩ : ∃ e, d = e + 1 := ⟨d - 1, by omega⟩
  rw [Ga_countWays_2] at hf
  show zEv _ _ _ (0, [some (.ref 2), none, none], []) _ _ _
  obtain ⟨x15, hx, hf⟩ := Option.bind_eq_some_iff.mp hf
  refine zEv_go 4 (f1 := (4, [some (.ref 2), some (.int 0), some (.int 0)], [])) (h1 := zHp I) (fun n => rfl) ?_
  refine zEv_weak (L := [some (.ref 2), some (.int 0), some (.int 0)]) (by exact ⟨rfl, ⟨rfl, ⟨rfl, trivial⟩⟩⟩) (s_Ga_countWays_2_L4 (d + 1) (by omega) n hx ?_)
  cases hf
  exact zEv_ret 4 (fun n => rfl)
def BM_way (n : Nat) (a0 : Int32) (a1 : Int32) (a2 : Int32) (I : zI) : Option (Int32 × zI) :=
  (BM_isBench a0 I).bind fun x2 =>
  if x2 = 0 then
    some ((-1), I)
  else
    (BM_isBench a1 I).bind fun x3 =>
    if x3 = 0 then
      some ((-1), I)
    else
      if a0 = a1 then
        some ((-1), I)
      else
        (Ga_setWay_2 a0 a1 a2 I).bind fun I12 =>
        (Ga_countWays_2 n I12).bind fun x16 =>
        some (x16, I12)
theorem s_BM_way {n : Nat} {a0 : Int32} {a1 : Int32} {a2 : Int32} {I : zI} {r : Int32} {I' : zI} (hf : BM_way n a0 a1 a2 I = some (r, I')) (d : Nat) (hd : 2 ≤ d) : zCall d 79 [.ref 1, .int a0, .int a1, .int a2] (zHp I) (some (.int r)) (zHp I') := by
  obtain ⟨d, rfl⟩ : ∃ e, d = e + 1 := ⟨d - 1, by omega⟩
  rw [BM_way] at hf
  show zEv _ _ _ (0, [some (.ref 1), some (.int a0), some (.int a1), some (.int a2)], []) _ _ _
  obtain ⟨x2, hx, hf⟩ := Option.bind_eq_some_iff.mp hf
  refine zEv_call 2 (N := 110) (vs := [.int a0]) (v1 := some (.int x2)) (h1 := zHp I) (L := [some (.ref 1), some (.int a0), some (.int a1), some (.int a2)]) (rest := []) (pc := 4) (fun n => rfl) (s_BM_isBench hx d (by omega)) rfl rfl ?_
  show zEv _ _ _ (4, [some (.ref 1), some (.int a0), some (.int a1), some (.int a2)], [.int x2]) _ _ _
  refine zEv_if 1 (c := x2 = 0) (f1 := (19, [some (.ref 1), some (.int a0), some (.int a1), some (.int a2)], [])) (f2 := (7, [some (.ref 1), some (.int a0), some (.int a1), some (.int a2)], [])) (h1 := zHp I) (fun n => rfl) (fun hc => ?_) (fun hc => ?_)
  · rw [if_pos hc] at hf
    cases hf
    exact zEv_ret 2 (fun n => rfl)
  · rw [if_neg hc] at hf
    obtain ⟨x3, hx, hf⟩ := Option.bind_eq_some_iff.mp hf
    refine zEv_call 2 (N := 110) (vs := [.int a1]) (v1 := some (.int x3)) (h1 := zHp I) (L := [some (.ref 1), some (.int a0), some (.int a1), some (.int a2)]) (rest := []) (pc := 11) (fun n => rfl) (s_BM_isBench hx d (by omega)) rfl rfl ?_
    show zEv _ _ _ (11, [some (.ref 1), some (.int a0), some (.int a1), some (.int a2)], [.int x3]) _ _ _
    refine zEv_if 1 (c := x3 = 0) (f1 := (19, [some (.ref 1), some (.int a0), some (.int a1), some (.int a2)], [])) (f2 := (14, [some (.ref 1), some (.int a0), some (.int a1), some (.int a2)], [])) (h1 := zHp I) (fun n => rfl) (fun hc => ?_) (fun hc => ?_)
    · rw [if_pos hc] at hf
      cases hf
      exact zEv_ret 2 (fun n => rfl)
    · rw [if_neg hc] at hf
      refine zEv_if 3 (c := a0 = a1) (f1 := (19, [some (.ref 1), some (.int a0), some (.int a1), some (.int a2)], [])) (f2 := (21, [some (.ref 1), some (.int a0), some (.int a1), some (.int a2)], [])) (h1 := zHp I) (fun n => rfl) (fun hc => ?_) (fun hc => ?_)
      · rw [if_pos hc] at hf
        cases hf
        exact zEv_ret 2 (fun n => rfl)
      · rw [if_neg hc] at hf
        obtain ⟨I12, hx, hf⟩ := Option.bind_eq_some_iff.mp hf
        refine zEv_call 6 (N := 12) (vs := [.ref 2, .int a0, .int a1, .int a2]) (v1 := none) (h1 := zHp I12) (L := [some (.ref 1), some (.int a0), some (.int a1), some (.int a2)]) (rest := []) (pc := 31) (fun n => rfl) (s_Ga_setWay_2 hx d (by omega)) rfl rfl ?_
        show zEv _ _ _ (31, [some (.ref 1), some (.int a0), some (.int a1), some (.int a2)], []) _ _ _
        obtain ⟨x16, hx, hf⟩ := Option.bind_eq_some_iff.mp hf
        refine zEv_call 3 (N := 13) (vs := [.ref 2]) (v1 := some (.int x16)) (h1 := zHp I12) (L := [some (.ref 1), some (.int a0), some (.int a1), some (.int a2)]) (rest := []) (pc := 38) (fun n => rfl) (s_Ga_countWays_2 hx d (by omega)) rfl rfl ?_
        show zEv _ _ _ (38, [some (.ref 1), some (.int a0), some (.int a1), some (.int a2)], [.int x16]) _ _ _
        cases hf
        exact zEv_ret 1 (fun n => rfl)
def BM_isOne  (a0 : Int32) (I : zI) : Option (Int32) :=
  (BM_isWithin a0 0 7 I).bind fun x17 =>
  if x17 = 0 ∨ x17 = 1 then some x17 else none
theorem s_BM_isOne  {a0 : Int32} {I : zI} {r : Int32} (hf : BM_isOne a0 I = some r) (d : Nat) (hd : 1 ≤ d) : zCall d 111 [.int a0] (zHp I) (some (.int r)) (zHp I) := by
  obtain ⟨d, rfl⟩ : ∃ e, d = e + 1 := ⟨d - 1, by omega⟩
  rw [BM_isOne] at hf
  show zEv _ _ _ (0, [some (.int a0)], []) _ _ _
  obtain ⟨x17, hx, hf⟩ := Option.bind_eq_some_iff.mp hf
  refine zEv_call 4 (N := 109) (vs := [.int a0, .int 0, .int 7]) (v1 := some (.int x17)) (h1 := zHp I) (L := [some (.int a0)]) (rest := []) (pc := 7) (fun n => rfl) (s_BM_isWithin hx d (by omega)) rfl rfl ?_
  show zEv _ _ _ (7, [some (.int a0)], [.int x17]) _ _ _
  obtain ⟨hc, hf⟩ := zGd_inv hf
  cases hf
  exact zEv_rt hc 1 (fun n => rfl)
def Rw_at_5  (a0 : Int32) (I : zI) : Option (Int32) :=
  if a0 < 0 then
    some (-6)
  else
    if 8 ≤ a0 then
      some (-6)
    else
      if zIn a0 8 then
        some (I 6 (Int32.toNatClampNeg a0))
      else none
theorem s_Rw_at_5  {a0 : Int32} {I : zI} {r : Int32} (hf : Rw_at_5 a0 I = some r) (d : Nat) (hd : 0 ≤ d) : zCall d 60 [.ref 5, .int a0] (zHp I) (some (.int r)) (zHp I) := by
  rw [Rw_at_5] at hf
  show zEv _ _ _ (0, [some (.ref 5), some (.int a0)], []) _ _ _
  refine zEv_if 2 (c := a0 < 0) (f1 := (22, [some (.ref 5), some (.int a0)], [])) (f2 := (4, [some (.ref 5), some (.int a0)], [])) (h1 := zHp I) (fun n => rfl) (fun hc => ?_) (fun hc => ?_)
  · rw [if_pos hc] at hf
    cases hf
    exact zEv_ret 2 (fun n => rfl)
  · rw [if_neg hc] at hf
    refine zEv_if 5 (c := 8 ≤ a0) (f1 := (22, [some (.ref 5), some (.int a0)], [])) (f2 := (13, [some (.ref 5), some (.int a0)], [])) (h1 := zHp I) (fun n => rfl) (fun hc => ?_) (fun hc => ?_)
    · rw [if_pos hc] at hf
      cases hf
      exact zEv_ret 2 (fun n => rfl)
    · rw [if_neg hc] at hf
      obtain ⟨hc, hf⟩ := zGd_inv hf
      refine zEv_gd 4 (c := zIn a0 8) (f1 := (19, [some (.ref 5), some (.int a0)], [.int (I 6 (Int32.toNatClampNeg a0))])) (h1 := zHp I) (fun n => rfl) hc ?_
      cases hf
      exact zEv_ret 2 (fun n => rfl)
def Ga_benchOf_2  (a0 : Int32) (I : zI) : Option (Int32) :=
  (Rw_at_5 a0 I).bind fun x20 =>
  some x20
theorem s_Ga_benchOf_2  {a0 : Int32} {I : zI} {r : Int32} (hf : Ga_benchOf_2 a0 I = some r) (d : Nat) (hd : 1 ≤ d) : zCall d 18 [.ref 2, .int a0] (zHp I) (some (.int r)) (zHp I) := by
  obtain ⟨d, rfl⟩ : ∃ e, d = e + 1 := ⟨d - 1, by omega⟩
  rw [Ga_benchOf_2] at hf
  show zEv _ _ _ (0, [some (.ref 2), some (.int a0)], []) _ _ _
  obtain ⟨x20, hx, hf⟩ := Option.bind_eq_some_iff.mp hf
  refine zEv_call 4 (N := 60) (vs := [.ref 5, .int a0]) (v1 := some (.int x20)) (h1 := zHp I) (L := [some (.ref 2), some (.int a0)]) (rest := []) (pc := 8) (fun n => rfl) (s_Rw_at_5 hx d (by omega)) rfl rfl ?_
  show zEv _ _ _ (8, [some (.ref 2), some (.int a0)], [.int x20]) _ _ _
  cases hf
  exact zEv_ret 1 (fun n => rfl)
def Rw_put_5  (a0 : Int32) (a1 : Int32) (I : zI) : Option (zI) :=
  if a0 < 0 then
    some I
  else
    if 8 ≤ a0 then
      some I
    else
      if zIn a0 8 then
        some (zUp I 6 (Int32.toNatClampNeg a0) a1)
      else none
theorem s_Rw_put_5  {a0 : Int32} {a1 : Int32} {I : zI} {I' : zI} (hf : Rw_put_5 a0 a1 I = some I') (d : Nat) (hd : 0 ≤ d) : zCall d 61 [.ref 5, .int a0, .int a1] (zHp I) (none) (zHp I') := by
  rw [Rw_put_5] at hf
  show zEv _ _ _ (0, [some (.ref 5), some (.int a0), some (.int a1)], []) _ _ _
  refine zEv_if 2 (c := a0 < 0) (f1 := (20, [some (.ref 5), some (.int a0), some (.int a1)], [])) (f2 := (4, [some (.ref 5), some (.int a0), some (.int a1)], [])) (h1 := zHp I) (fun n => rfl) (fun hc => ?_) (fun hc => ?_)
  · rw [if_pos hc] at hf
    cases hf
    exact zEv_ret 1 (fun n => rfl)
  · rw [if_neg hc] at hf
    refine zEv_if 5 (c := 8 ≤ a0) (f1 := (20, [some (.ref 5), some (.int a0), some (.int a1)], [])) (f2 := (13, [some (.ref 5), some (.int a0), some (.int a1)], [])) (h1 := zHp I) (fun n => rfl) (fun hc => ?_) (fun hc => ?_)
    · rw [if_pos hc] at hf
      cases hf
      exact zEv_ret 1 (fun n => rfl)
    · rw [if_neg hc] at hf
      obtain ⟨hc, hf⟩ := zGd_inv hf
      refine zEv_gd 5 (c := zIn a0 8) (f1 := (20, [some (.ref 5), some (.int a0), some (.int a1)], [])) (h1 := zHp (zUp I 6 (Int32.toNatClampNeg a0) a1)) (fun n => rfl) hc ?_
      cases hf
      exact zEv_ret 1 (fun n => rfl)
def Ga_standAt_2  (a0 : Int32) (a1 : Int32) (I : zI) : Option (zI) :=
  (Rw_put_5 a0 a1 I).bind fun I22 =>
  some I22
theorem s_Ga_standAt_2  {a0 : Int32} {a1 : Int32} {I : zI} {I' : zI} (hf : Ga_standAt_2 a0 a1 I = some I') (d : Nat) (hd : 1 ≤ d) : zCall d 24 [.ref 2, .int a0, .int a1] (zHp I) (none) (zHp I') := by
  obtain ⟨d, rfl⟩ : ∃ e, d = e + 1 := ⟨d - 1, by omega⟩
  rw [Ga_standAt_2] at hf
  show zEv _ _ _ (0, [some (.ref 2), some (.int a0), some (.int a1)], []) _ _ _
  obtain ⟨I22, hx, hf⟩ := Option.bind_eq_some_iff.mp hf
  refine zEv_call 5 (N := 61) (vs := [.ref 5, .int a0, .int a1]) (v1 := none) (h1 := zHp I22) (L := [some (.ref 2), some (.int a0), some (.int a1)]) (rest := []) (pc := 9) (fun n => rfl) (s_Rw_put_5 hx d (by omega)) rfl rfl ?_
  show zEv _ _ _ (9, [some (.ref 2), some (.int a0), some (.int a1)], []) _ _ _
  cases hf
  exact zEv_ret 1 (fun n => rfl)
def BM_stand  (a0 : Int32) (a1 : Int32) (I : zI) : Option (Int32 × zI) :=
  (BM_isOne a0 I).bind fun x18 =>
  if x18 = 0 then
    some ((-1), I)
  else
    (BM_isBench a1 I).bind fun x19 =>
    if x19 = 0 then
      some ((-1), I)
    else
      (Ga_benchOf_2 a0 I).bind fun x21 =>
      (Ga_standAt_2 a0 a1 I).bind fun I23 =>
      some (x21, I23)
theorem s_BM_stand  {a0 : Int32} {a1 : Int32} {I : zI} {r : Int32} {I' : zI} (hf : BM_stand a0 a1 I = some (r, I')) (d : Nat) (hd : 2 ≤ d) : zCall d 80 [.ref 1, .int a0, .int a1] (zHp I) (some (.int r)) (zHp I') := by
  obtain ⟨d, rfl⟩ : ∃ e, d = e + 1 := ⟨d - 1, by omega⟩
  rw [BM_stand] at hf
  show zEv _ _ _ (0, [some (.ref 1), some (.int a0), some (.int a1), none], []) _ _ _
  obtain ⟨x18, hx, hf⟩ := Option.bind_eq_some_iff.mp hf
  refine zEv_call 2 (N := 111) (vs := [.int a0]) (v1 := some (.int x18)) (h1 := zHp I) (L := [some (.ref 1), some (.int a0), some (.int a1), none]) (rest := []) (pc := 4) (fun n => rfl) (s_BM_isOne hx d (by omega)) rfl rfl ?_
  show zEv _ _ _ (4, [some (.ref 1), some (.int a0), some (.int a1), none], [.int x18]) _ _ _
  refine zEv_if 1 (c := x18 = 0) (f1 := (14, [some (.ref 1), some (.int a0), some (.int a1), none], [])) (f2 := (7, [some (.ref 1), some (.int a0), some (.int a1), none], [])) (h1 := zHp I) (fun n => rfl) (fun hc => ?_) (fun hc => ?_)
  · rw [if_pos hc] at hf
    cases hf
    exact zEv_ret 2 (fun n => rfl)
  · rw [if_neg hc] at hf
    obtain ⟨x19, hx, hf⟩ := Option.bind_eq_some_iff.mp hf
    refine zEv_call 2 (N := 110) (vs := [.int a1]) (v1 := some (.int x19)) (h1 := zHp I) (L := [some (.ref 1), some (.int a0), some (.int a1), none]) (rest := []) (pc := 11) (fun n => rfl) (s_BM_isBench hx d (by omega)) rfl rfl ?_
    show zEv _ _ _ (11, [some (.ref 1), some (.int a0), some (.int a1), none], [.int x19]) _ _ _
    refine zEv_if 1 (c := x19 = 0) (f1 := (14, [some (.ref 1), some (.int a0), some (.int a1), none], [])) (f2 := (16, [some (.ref 1), some (.int a0), some (.int a1), none], [])) (h1 := zHp I) (fun n => rfl) (fun hc => ?_) (fun hc => ?_)
    · rw [if_pos hc] at hf
      cases hf
      exact zEv_ret 2 (fun n => rfl)
    · rw [if_neg hc] at hf
      obtain ⟨x21, hx, hf⟩ := Option.bind_eq_some_iff.mp hf
      refine zEv_call 4 (N := 18) (vs := [.ref 2, .int a0]) (v1 := some (.int x21)) (h1 := zHp I) (L := [some (.ref 1), some (.int a0), some (.int a1), none]) (rest := []) (pc := 24) (fun n => rfl) (s_Ga_benchOf_2 hx d (by omega)) rfl rfl ?_
      show zEv _ _ _ (24, [some (.ref 1), some (.int a0), some (.int a1), none], [.int x21]) _ _ _
      obtain ⟨I23, hx, hf⟩ := Option.bind_eq_some_iff.mp hf
      refine zEv_call 6 (N := 24) (vs := [.ref 2, .int a0, .int a1]) (v1 := none) (h1 := zHp I23) (L := [some (.ref 1), some (.int a0), some (.int a1), some (.int x21)]) (rest := []) (pc := 34) (fun n => rfl) (s_Ga_standAt_2 hx d (by omega)) rfl rfl ?_
      show zEv _ _ _ (34, [some (.ref 1), some (.int a0), some (.int a1), some (.int x21)], []) _ _ _
      cases hf
      exact zEv_ret 2 (fun n => rfl)
def BM_isMemory  (a0 : Int32) (I : zI) : Option (Int32) :=
  (BM_isWithin a0 0 11 I).bind fun x24 =>
  if x24 = 0 ∨ x24 = 1 then some x24 else none
theorem s_BM_isMemory  {a0 : Int32} {I : zI} {r : Int32} (hf : BM_isMemory a0 I = some r) (d : Nat) (hd : 1 ≤ d) : zCall d 112 [.int a0] (zHp I) (some (.int r)) (zHp I) := by
  obtain ⟨d, rfl⟩ : ∃ e, d = e + 1 := ⟨d - 1, by omega⟩
  rw [BM_isMemory] at hf
  show zEv _ _ _ (0, [some (.int a0)], []) _ _ _
  obtain ⟨x24, hx, hf⟩ := Option.bind_eq_some_iff.mp hf
  refine zEv_call 4 (N := 109) (vs := [.int a0, .int 0, .int 11]) (v1 := some (.int x24)) (h1 := zHp I) (L := [some (.int a0)]) (rest := []) (pc := 7) (fun n => rfl) (s_BM_isWithin hx d (by omega)) rfl rfl ?_
  show zEv _ _ _ (7, [some (.int a0)], [.int x24]) _ _ _
  obtain ⟨hc, hf⟩ := zGd_inv hf
  cases hf
  exact zEv_rt hc 1 (fun n => rfl)
def Rw_at_7  (a0 : Int32) (I : zI) : Option (Int32) :=
  if a0 < 0 then
    some (-6)
  else
    if 12 ≤ a0 then
      some (-6)
    else
      if zIn a0 12 then
        some (I 8 (Int32.toNatClampNeg a0))
      else none
theorem s_Rw_at_7  {a0 : Int32} {I : zI} {r : Int32} (hf : Rw_at_7 a0 I = some r) (d : Nat) (hd : 0 ≤ d) : zCall d 60 [.ref 7, .int a0] (zHp I) (some (.int r)) (zHp I) := by
  rw [Rw_at_7] at hf
  show zEv _ _ _ (0, [some (.ref 7), some (.int a0)], []) _ _ _
  refine zEv_if 2 (c := a0 < 0) (f1 := (22, [some (.ref 7), some (.int a0)], [])) (f2 := (4, [some (.ref 7), some (.int a0)], [])) (h1 := zHp I) (fun n => rfl) (fun hc => ?_) (fun hc => ?_)
  · rw [if_pos hc] at hf
    cases hf
    exact zEv_ret 2 (fun n => rfl)
  · rw [if_neg hc] at hf
    refine zEv_if 5 (c := 12 ≤ a0) (f1 := (22, [some (.ref 7), some (.int a0)], [])) (f2 := (13, [some (.ref 7), some (.int a0)], [])) (h1 := zHp I) (fun n => rfl) (fun hc => ?_) (fun hc => ?_)
    · rw [if_pos hc] at hf
      cases hf
      exact zEv_ret 2 (fun n => rfl)
    · rw [if_neg hc] at hf
      obtain ⟨hc, hf⟩ := zGd_inv hf
      refine zEv_gd 4 (c := zIn a0 12) (f1 := (19, [some (.ref 7), some (.int a0)], [.int (I 8 (Int32.toNatClampNeg a0))])) (h1 := zHp I) (fun n => rfl) hc ?_
      cases hf
      exact zEv_ret 2 (fun n => rfl)
def Ga_placeOf_2  (a0 : Int32) (I : zI) : Option (Int32) :=
  (Rw_at_7 a0 I).bind fun x27 =>
  some x27
theorem s_Ga_placeOf_2  {a0 : Int32} {I : zI} {r : Int32} (hf : Ga_placeOf_2 a0 I = some r) (d : Nat) (hd : 1 ≤ d) : zCall d 19 [.ref 2, .int a0] (zHp I) (some (.int r)) (zHp I) := by
  obtain ⟨d, rfl⟩ : ∃ e, d = e + 1 := ⟨d - 1, by omega⟩
  rw [Ga_placeOf_2] at hf
  show zEv _ _ _ (0, [some (.ref 2), some (.int a0)], []) _ _ _
  obtain ⟨x27, hx, hf⟩ := Option.bind_eq_some_iff.mp hf
  refine zEv_call 4 (N := 60) (vs := [.ref 7, .int a0]) (v1 := some (.int x27)) (h1 := zHp I) (L := [some (.ref 2), some (.int a0)]) (rest := []) (pc := 8) (fun n => rfl) (s_Rw_at_7 hx d (by omega)) rfl rfl ?_
  show zEv _ _ _ (8, [some (.ref 2), some (.int a0)], [.int x27]) _ _ _
  cases hf
  exact zEv_ret 1 (fun n => rfl)
def Ga_memoryAt_2_L2 : Nat → Int32 → Int32 → zI → Option (Int32)
  | 0, _, _, _ => none
  | n + 1, v1, v2, I =>
    if 12 ≤ v2 then
      some (-6)
    else
      (Rw_at_7 v2 I).bind fun x29 =>
      if x29 = v1 then
        some v2
      else
        Ga_memoryAt_2_L2 n v1 (v2 + 1) I
theorem s_Ga_memoryAt_2_L2 (d : Nat) (hd : 1 ≤ d) : ∀ (n : Nat) {v1 : Int32} {v2 : Int32} {I : zI} {r : Int32}, Ga_memoryAt_2_L2 n v1 v2 I = some r → zEv none d 22 (2, [some (.ref 2), some (.int v1), some (.int v2)], []) (zHp I) (some (.int r)) (zHp I) := by
  obtain ⟨d, rfl⟩ : ∃ e, d = e + 1 := ⟨d - 1, by omega⟩
  intro n
  induction n with
  | zero => intros; rename_i hf; cases hf
  | succ n ih =>
    intro v1 v2 I r hf
    rw [Ga_memoryAt_2_L2] at hf
    refine zEv_if 3 (c := 12 ≤ v2) (f1 := (28, [some (.ref 2), some (.int v1), some (.int v2)], [])) (f2 := (8, [some (.ref 2), some (.int v1), some (.int v2)], [])) (h1 := zHp I) (fun n => rfl) (fun hc => ?_) (fun hc => ?_)
    · rw [if_pos hc] at hf
      cases hf
      exact zEv_ret 2 (fun n => rfl)
    · rw [if_neg hc] at hf
      obtain ⟨x29, hx, hf⟩ := Option.bind_eq_some_iff.mp hf
      refine zEv_call 4 (N := 60) (vs := [.ref 7, .int v2]) (v1 := some (.int x29)) (h1 := zHp I) (L := [some (.ref 2), some (.int v1), some (.int v2)]) (rest := []) (pc := 16) (fun n => rfl) (s_Rw_at_7 hx d (by omega)) rfl rfl ?_
      show zEv _ _ _ (16, [some (.ref 2), some (.int v1), some (.int v2)], [.int x29]) _ _ _
      refine zEv_if 2 (c := x29 = v1) (f1 := (20, [some (.ref 2), some (.int v1), some (.int v2)], [])) (f2 := (22, [some (.ref 2), some (.int v1), some (.int v2)], [])) (h1 := zHp I) (fun n => rfl) (fun hc => ?_) (fun hc => ?_)
      · rw [if_pos hc] at hf
        cases hf
        exact zEv_ret 2 (fun n => rfl)
      · rw [if_neg hc] at hf
        refine zEv_go 2 (f1 := (2, [some (.ref 2), some (.int v1), some (.int (v2 + 1))], [])) (h1 := zHp I) (fun n => rfl) ?_
        refine zEv_weak (L := [some (.ref 2), some (.int v1), some (.int (v2 + 1))]) (by exact ⟨rfl, ⟨rfl, ⟨rfl, trivial⟩⟩⟩) ?_
        exact ih hf
def Ga_memoryAt_2 (n : Nat) (a0 : Int32) (I : zI) : Option (Int32) :=
  Ga_memoryAt_2_L2 n a0 0 I
theorem s_Ga_memoryAt_2 {n : Nat} {a0 : Int32} {I : zI} {r : Int32} (hf : Ga_memoryAt_2 n a0 I = some r) (d : Nat) (hd : 1 ≤ d) : zCall d 22 [.ref 2, .int a0] (zHp I) (some (.int r)) (zHp I) := by
  obtain ⟨d, rfl⟩ : ∃ e, d = e + 1 := ⟨d - 1, by omega⟩
  rw [Ga_memoryAt_2] at hf
  show zEv _ _ _ (0, [some (.ref 2), some (.int a0), none], []) _ _ _
  refine zEv_go 2 (f1 := (2, [some (.ref 2), some (.int a0), some (.int 0)], [])) (h1 := zHp I) (fun n => rfl) ?_
  exact zEv_weak (L := [some (.ref 2), some (.int a0), some (.int 0)]) (by exact ⟨rfl, ⟨rfl, ⟨rfl, trivial⟩⟩⟩) (s_Ga_memoryAt_2_L2 (d + 1) (by omega) n hf)
def Ga_heldBy_2 (n : Nat) (a0 : Int32) (I : zI) : Option (Int32) :=
  (Ga_memoryAt_2 n a0 I).bind fun x30 =>
  some x30
theorem s_Ga_heldBy_2 {n : Nat} {a0 : Int32} {I : zI} {r : Int32} (hf : Ga_heldBy_2 n a0 I = some r) (d : Nat) (hd : 2 ≤ d) : zCall d 20 [.ref 2, .int a0] (zHp I) (some (.int r)) (zHp I) := by
  obtain ⟨d, rfl⟩ : ∃ e, d = e + 1 := ⟨d - 1, by omega⟩
  rw [Ga_heldBy_2] at hf
  show zEv _ _ _ (0, [some (.ref 2), some (.int a0)], []) _ _ _
  obtain ⟨x30, hx, hf⟩ := Option.bind_eq_some_iff.mp hf
  refine zEv_call 3 (N := 22) (vs := [.ref 2, .int a0]) (v1 := some (.int x30)) (h1 := zHp I) (L := [some (.ref 2), some (.int a0)]) (rest := []) (pc := 5) (fun n => rfl) (s_Ga_memoryAt_2 hx d (by omega)) rfl rfl ?_
  show zEv _ _ _ (5, [some (.ref 2), some (.int a0)], [.int x30]) _ _ _
  cases hf
  exact zEv_ret 1 (fun n => rfl)
def Rw_put_7  (a0 : Int32) (a1 : Int32) (I : zI) : Option (zI) :=
  if a0 < 0 then
    some I
  else
    if 12 ≤ a0 then
      some I
    else
      if zIn a0 12 then
        some (zUp I 8 (Int32.toNatClampNeg a0) a1)
      else none
theorem s_Rw_put_7  {a0 : Int32} {a1 : Int32} {I : zI} {I' : zI} (hf : Rw_put_7 a0 a1 I = some I') (d : Nat) (hd : 0 ≤ d) : zCall d 61 [.ref 7, .int a0, .int a1] (zHp I) (none) (zHp I') := by
  rw [Rw_put_7] at hf
  show zEv _ _ _ (0, [some (.ref 7), some (.int a0), some (.int a1)], []) _ _ _
  refine zEv_if 2 (c := a0 < 0) (f1 := (20, [some (.ref 7), some (.int a0), some (.int a1)], [])) (f2 := (4, [some (.ref 7), some (.int a0), some (.int a1)], [])) (h1 := zHp I) (fun n => rfl) (fun hc => ?_) (fun hc => ?_)
  · rw [if_pos hc] at hf
    cases hf
    exact zEv_ret 1 (fun n => rfl)
  · rw [if_neg hc] at hf
    refine zEv_if 5 (c := 12 ≤ a0) (f1 := (20, [some (.ref 7), some (.int a0), some (.int a1)], [])) (f2 := (13, [some (.ref 7), some (.int a0), some (.int a1)], [])) (h1 := zHp I) (fun n => rfl) (fun hc => ?_) (fun hc => ?_)
    · rw [if_pos hc] at hf
      cases hf
      exact zEv_ret 1 (fun n => rfl)
    · rw [if_neg hc] at hf
      obtain ⟨hc, hf⟩ := zGd_inv hf
      refine zEv_gd 5 (c := zIn a0 12) (f1 := (20, [some (.ref 7), some (.int a0), some (.int a1)], [])) (h1 := zHp (zUp I 8 (Int32.toNatClampNeg a0) a1)) (fun n => rfl) hc ?_
      cases hf
      exact zEv_ret 1 (fun n => rfl)
def Ga_makeNowhere_2  (a0 : Int32) (I : zI) : Option (zI) :=
  (Rw_put_7 a0 (-6) I).bind fun I32 =>
  some I32
theorem s_Ga_makeNowhere_2  {a0 : Int32} {I : zI} {I' : zI} (hf : Ga_makeNowhere_2 a0 I = some I') (d : Nat) (hd : 1 ≤ d) : zCall d 26 [.ref 2, .int a0] (zHp I) (none) (zHp I') := by
  obtain ⟨d, rfl⟩ : ∃ e, d = e + 1 := ⟨d - 1, by omega⟩
  rw [Ga_makeNowhere_2] at hf
  show zEv _ _ _ (0, [some (.ref 2), some (.int a0)], []) _ _ _
  obtain ⟨I32, hx, hf⟩ := Option.bind_eq_some_iff.mp hf
  refine zEv_call 5 (N := 61) (vs := [.ref 7, .int a0, .int (-6)]) (v1 := none) (h1 := zHp I32) (L := [some (.ref 2), some (.int a0)]) (rest := []) (pc := 10) (fun n => rfl) (s_Rw_put_7 hx d (by omega)) rfl rfl ?_
  show zEv _ _ _ (10, [some (.ref 2), some (.int a0)], []) _ _ _
  cases hf
  exact zEv_ret 1 (fun n => rfl)
def Ga_putWith_2  (a0 : Int32) (a1 : Int32) (I : zI) : Option (zI) :=
  (Rw_put_7 a0 a1 I).bind fun I34 =>
  some I34
theorem s_Ga_putWith_2  {a0 : Int32} {a1 : Int32} {I : zI} {I' : zI} (hf : Ga_putWith_2 a0 a1 I = some I') (d : Nat) (hd : 1 ≤ d) : zCall d 25 [.ref 2, .int a0, .int a1] (zHp I) (none) (zHp I') := by
  obtain ⟨d, rfl⟩ : ∃ e, d = e + 1 := ⟨d - 1, by omega⟩
  rw [Ga_putWith_2] at hf
  show zEv _ _ _ (0, [some (.ref 2), some (.int a0), some (.int a1)], []) _ _ _
  obtain ⟨I34, hx, hf⟩ := Option.bind_eq_some_iff.mp hf
  refine zEv_call 5 (N := 61) (vs := [.ref 7, .int a0, .int a1]) (v1 := none) (h1 := zHp I34) (L := [some (.ref 2), some (.int a0), some (.int a1)]) (rest := []) (pc := 9) (fun n => rfl) (s_Rw_put_7 hx d (by omega)) rfl rfl ?_
  show zEv _ _ _ (9, [some (.ref 2), some (.int a0), some (.int a1)], []) _ _ _
  cases hf
  exact zEv_ret 1 (fun n => rfl)
def BM_give (n : Nat) (a0 : Int32) (a1 : Int32) (I : zI) : Option (Int32 × zI) :=
  (BM_isMemory a0 I).bind fun x25 =>
  if x25 = 0 then
    some ((-1), I)
  else
    (BM_isOne a1 I).bind fun x26 =>
    if x26 = 0 then
      some ((-1), I)
    else
      (Ga_placeOf_2 a0 I).bind fun x28 =>
      (Ga_heldBy_2 n a1 I).bind fun x31 =>
      (Ga_makeNowhere_2 x31 I).bind fun I33 =>
      (Ga_putWith_2 a0 a1 I33).bind fun I35 =>
      some (x28, I35)
theorem s_BM_give {n : Nat} {a0 : Int32} {a1 : Int32} {I : zI} {r : Int32} {I' : zI} (hf : BM_give n a0 a1 I = some (r, I')) (d : Nat) (hd : 3 ≤ d) : zCall d 81 [.ref 1, .int a0, .int a1] (zHp I) (some (.int r)) (zHp I') := by
  obtain ⟨d, rfl⟩ : ∃ e, d = e + 1 := ⟨d - 1, by omega⟩
  rw [BM_give] at hf
  show zEv _ _ _ (0, [some (.ref 1), some (.int a0), some (.int a1), none], []) _ _ _
  obtain ⟨x25, hx, hf⟩ := Option.bind_eq_some_iff.mp hf
  refine zEv_call 2 (N := 112) (vs := [.int a0]) (v1 := some (.int x25)) (h1 := zHp I) (L := [some (.ref 1), some (.int a0), some (.int a1), none]) (rest := []) (pc := 4) (fun n => rfl) (s_BM_isMemory hx d (by omega)) rfl rfl ?_
  show zEv _ _ _ (4, [some (.ref 1), some (.int a0), some (.int a1), none], [.int x25]) _ _ _
  refine zEv_if 1 (c := x25 = 0) (f1 := (14, [some (.ref 1), some (.int a0), some (.int a1), none], [])) (f2 := (7, [some (.ref 1), some (.int a0), some (.int a1), none], [])) (h1 := zHp I) (fun n => rfl) (fun hc => ?_) (fun hc => ?_)
  · rw [if_pos hc] at hf
    cases hf
    exact zEv_ret 2 (fun n => rfl)
  · rw [if_neg hc] at hf
    obtain ⟨x26, hx, hf⟩ := Option.bind_eq_some_iff.mp hf
    refine zEv_call 2 (N := 111) (vs := [.int a1]) (v1 := some (.int x26)) (h1 := zHp I) (L := [some (.ref 1), some (.int a0), some (.int a1), none]) (rest := []) (pc := 11) (fun n => rfl) (s_BM_isOne hx d (by omega)) rfl rfl ?_
    show zEv _ _ _ (11, [some (.ref 1), some (.int a0), some (.int a1), none], [.int x26]) _ _ _
    refine zEv_if 1 (c := x26 = 0) (f1 := (14, [some (.ref 1), some (.int a0), some (.int a1), none], [])) (f2 := (16, [some (.ref 1), some (.int a0), some (.int a1), none], [])) (h1 := zHp I) (fun n => rfl) (fun hc => ?_) (fun hc => ?_)
    · rw [if_pos hc] at hf
      cases hf
      exact zEv_ret 2 (fun n => rfl)
    · rw [if_neg hc] at hf
      obtain ⟨x28, hx, hf⟩ := Option.bind_eq_some_iff.mp hf
      refine zEv_call 4 (N := 19) (vs := [.ref 2, .int a0]) (v1 := some (.int x28)) (h1 := zHp I) (L := [some (.ref 1), some (.int a0), some (.int a1), none]) (rest := []) (pc := 24) (fun n => rfl) (s_Ga_placeOf_2 hx d (by omega)) rfl rfl ?_
      show zEv _ _ _ (24, [some (.ref 1), some (.int a0), some (.int a1), none], [.int x28]) _ _ _
      obtain ⟨x31, hx, hf⟩ := Option.bind_eq_some_iff.mp hf
      refine zEv_call 7 (N := 20) (vs := [.ref 2, .int a1]) (v1 := some (.int x31)) (h1 := zHp I) (L := [some (.ref 1), some (.int a0), some (.int a1), some (.int x28)]) (rest := [.ref 2]) (pc := 37) (fun n => rfl) (s_Ga_heldBy_2 hx d (by omega)) rfl rfl ?_
      show zEv _ _ _ (37, [some (.ref 1), some (.int a0), some (.int a1), some (.int x28)], [.int x31, .ref 2]) _ _ _
      obtain ⟨I33, hx, hf⟩ := Option.bind_eq_some_iff.mp hf
      refine zEv_call 1 (N := 26) (vs := [.ref 2, .int x31]) (v1 := none) (h1 := zHp I33) (L := [some (.ref 1), some (.int a0), some (.int a1), some (.int x28)]) (rest := []) (pc := 40) (fun n => rfl) (s_Ga_makeNowhere_2 hx d (by omega)) rfl rfl ?_
      show zEv _ _ _ (40, [some (.ref 1), some (.int a0), some (.int a1), some (.int x28)], []) _ _ _
      obtain ⟨I35, hx, hf⟩ := Option.bind_eq_some_iff.mp hf
      refine zEv_call 5 (N := 25) (vs := [.ref 2, .int a0, .int a1]) (v1 := none) (h1 := zHp I35) (L := [some (.ref 1), some (.int a0), some (.int a1), some (.int x28)]) (rest := []) (pc := 49) (fun n => rfl) (s_Ga_putWith_2 hx d (by omega)) rfl rfl ?_
      show zEv _ _ _ (49, [some (.ref 1), some (.int a0), some (.int a1), some (.int x28)], []) _ _ _
      cases hf
      exact zEv_ret 2 (fun n => rfl)
def Ga_lyingOn_2 (n : Nat) (a0 : Int32) (I : zI) : Option (Int32) :=
  (Ga_memoryAt_2 n (10 + a0) I).bind fun x40 =>
  some x40
theorem s_Ga_lyingOn_2 {n : Nat} {a0 : Int32} {I : zI} {r : Int32} (hf : Ga_lyingOn_2 n a0 I = some r) (d : Nat) (hd : 2 ≤ d) : zCall d 21 [.ref 2, .int a0] (zHp I) (some (.int r)) (zHp I) := by
  obtain ⟨d, rfl⟩ : ∃ e, d = e + 1 := ⟨d - 1, by omega⟩
  rw [Ga_lyingOn_2] at hf
  show zEv _ _ _ (0, [some (.ref 2), some (.int a0)], []) _ _ _
  obtain ⟨x40, hx, hf⟩ := Option.bind_eq_some_iff.mp hf
  refine zEv_call 5 (N := 22) (vs := [.ref 2, .int (10 + a0)]) (v1 := some (.int x40)) (h1 := zHp I) (L := [some (.ref 2), some (.int a0)]) (rest := []) (pc := 8) (fun n => rfl) (s_Ga_memoryAt_2 hx d (by omega)) rfl rfl ?_
  show zEv _ _ _ (8, [some (.ref 2), some (.int a0)], [.int x40]) _ _ _
  cases hf
  exact zEv_ret 1 (fun n => rfl)
def Rw_put_9  (a0 : Int32) (a1 : Int32) (I : zI) : Option (zI) :=
  if a0 < 0 then
    some I
  else
    if 12 ≤ a0 then
      some I
    else
      if zIn a0 12 then
        some (zUp I 10 (Int32.toNatClampNeg a0) a1)
      else none
theorem s_Rw_put_9  {a0 : Int32} {a1 : Int32} {I : zI} {I' : zI} (hf : Rw_put_9 a0 a1 I = some I') (d : Nat) (hd : 0 ≤ d) : zCall d 61 [.ref 9, .int a0, .int a1] (zHp I) (none) (zHp I') := by
  rw [Rw_put_9] at hf
  show zEv _ _ _ (0, [some (.ref 9), some (.int a0), some (.int a1)], []) _ _ _
  refine zEv_if 2 (c := a0 < 0) (f1 := (20, [some (.ref 9), some (.int a0), some (.int a1)], [])) (f2 := (4, [some (.ref 9), some (.int a0), some (.int a1)], [])) (h1 := zHp I) (fun n => rfl) (fun hc => ?_) (fun hc => ?_)
  · rw [if_pos hc] at hf
    cases hf
    exact zEv_ret 1 (fun n => rfl)
  · rw [if_neg hc] at hf
    refine zEv_if 5 (c := 12 ≤ a0) (f1 := (20, [some (.ref 9), some (.int a0), some (.int a1)], [])) (f2 := (13, [some (.ref 9), some (.int a0), some (.int a1)], [])) (h1 := zHp I) (fun n => rfl) (fun hc => ?_) (fun hc => ?_)
    · rw [if_pos hc] at hf
      cases hf
      exact zEv_ret 1 (fun n => rfl)
    · rw [if_neg hc] at hf
      obtain ⟨hc, hf⟩ := zGd_inv hf
      refine zEv_gd 5 (c := zIn a0 12) (f1 := (20, [some (.ref 9), some (.int a0), some (.int a1)], [])) (h1 := zHp (zUp I 10 (Int32.toNatClampNeg a0) a1)) (fun n => rfl) hc ?_
      cases hf
      exact zEv_ret 1 (fun n => rfl)
def Ga_putOn_2  (a0 : Int32) (a1 : Int32) (a2 : Int32) (I : zI) : Option (zI) :=
  (Rw_put_7 a0 (10 + a1) I).bind fun I43 =>
  (Rw_put_9 a0 a2 I43).bind fun I44 =>
  some I44
theorem s_Ga_putOn_2  {a0 : Int32} {a1 : Int32} {a2 : Int32} {I : zI} {I' : zI} (hf : Ga_putOn_2 a0 a1 a2 I = some I') (d : Nat) (hd : 1 ≤ d) : zCall d 27 [.ref 2, .int a0, .int a1, .int a2] (zHp I) (none) (zHp I') := by
  obtain ⟨d, rfl⟩ : ∃ e, d = e + 1 := ⟨d - 1, by omega⟩
  rw [Ga_putOn_2] at hf
  show zEv _ _ _ (0, [some (.ref 2), some (.int a0), some (.int a1), some (.int a2)], []) _ _ _
  obtain ⟨I43, hx, hf⟩ := Option.bind_eq_some_iff.mp hf
  refine zEv_call 7 (N := 61) (vs := [.ref 7, .int a0, .int (10 + a1)]) (v1 := none) (h1 := zHp I43) (L := [some (.ref 2), some (.int a0), some (.int a1), some (.int a2)]) (rest := []) (pc := 12) (fun n => rfl) (s_Rw_put_7 hx d (by omega)) rfl rfl ?_
  show zEv _ _ _ (12, [some (.ref 2), some (.int a0), some (.int a1), some (.int a2)], []) _ _ _
  obtain ⟨I44, hx, hf⟩ := Option.bind_eq_some_iff.mp hf
  refine zEv_call 5 (N := 61) (vs := [.ref 9, .int a0, .int a2]) (v1 := none) (h1 := zHp I44) (L := [some (.ref 2), some (.int a0), some (.int a1), some (.int a2)]) (rest := []) (pc := 21) (fun n => rfl) (s_Rw_put_9 hx d (by omega)) rfl rfl ?_
  show zEv _ _ _ (21, [some (.ref 2), some (.int a0), some (.int a1), some (.int a2)], []) _ _ _
  cases hf
  exact zEv_ret 1 (fun n => rfl)
def BM_lay (n : Nat) (a0 : Int32) (a1 : Int32) (a2 : Int32) (I : zI) : Option (Int32 × zI) :=
  (BM_isMemory a0 I).bind fun x36 =>
  if x36 = 0 then
    some ((-1), I)
  else
    (BM_isBench a1 I).bind fun x37 =>
    if x37 = 0 then
      some ((-1), I)
    else
      (BM_isWithin a2 1 9 I).bind fun x38 =>
      if x38 = 0 then
        some ((-2), I)
      else
        (Ga_placeOf_2 a0 I).bind fun x39 =>
        (Ga_lyingOn_2 n a1 I).bind fun x41 =>
        (Ga_makeNowhere_2 x41 I).bind fun I42 =>
        (Ga_putOn_2 a0 a1 a2 I42).bind fun I45 =>
        some (x39, I45)
theorem s_BM_lay {n : Nat} {a0 : Int32} {a1 : Int32} {a2 : Int32} {I : zI} {r : Int32} {I' : zI} (hf : BM_lay n a0 a1 a2 I = some (r, I')) (d : Nat) (hd : 3 ≤ d) : zCall d 82 [.ref 1, .int a0, .int a1, .int a2] (zHp I) (some (.int r)) (zHp I') := by
  obtain ⟨d, rfl⟩ : ∃ e, d = e + 1 := ⟨d - 1, by omega⟩
  rw [BM_lay] at hf
  show zEv _ _ _ (0, [some (.ref 1), some (.int a0), some (.int a1), some (.int a2), none], []) _ _ _
  obtain ⟨x36, hx, hf⟩ := Option.bind_eq_some_iff.mp hf
  refine zEv_call 2 (N := 112) (vs := [.int a0]) (v1 := some (.int x36)) (h1 := zHp I) (L := [some (.ref 1), some (.int a0), some (.int a1), some (.int a2), none]) (rest := []) (pc := 4) (fun n => rfl) (s_BM_isMemory hx d (by omega)) rfl rfl ?_
  show zEv _ _ _ (4, [some (.ref 1), some (.int a0), some (.int a1), some (.int a2), none], [.int x36]) _ _ _
  refine zEv_if 1 (c := x36 = 0) (f1 := (14, [some (.ref 1), some (.int a0), some (.int a1), some (.int a2), none], [])) (f2 := (7, [some (.ref 1), some (.int a0), some (.int a1), some (.int a2), none], [])) (h1 := zHp I) (fun n => rfl) (fun hc => ?_) (fun hc => ?_)
  · rw [if_pos hc] at hf
    cases hf
    exact zEv_ret 2 (fun n => rfl)
  · rw [if_neg hc] at hf
    obtain ⟨x37, hx, hf⟩ := Option.bind_eq_some_iff.mp hf
    refine zEv_call 2 (N := 110) (vs := [.int a1]) (v1 := some (.int x37)) (h1 := zHp I) (L := [some (.ref 1), some (.int a0), some (.int a1), some (.int a2), none]) (rest := []) (pc := 11) (fun n => rfl) (s_BM_isBench hx d (by omega)) rfl rfl ?_
    show zEv _ _ _ (11, [some (.ref 1), some (.int a0), some (.int a1), some (.int a2), none], [.int x37]) _ _ _
    refine zEv_if 1 (c := x37 = 0) (f1 := (14, [some (.ref 1), some (.int a0), some (.int a1), some (.int a2), none], [])) (f2 := (16, [some (.ref 1), some (.int a0), some (.int a1), some (.int a2), none], [])) (h1 := zHp I) (fun n => rfl) (fun hc => ?_) (fun hc => ?_)
    · rw [if_pos hc] at hf
      cases hf
      exact zEv_ret 2 (fun n => rfl)
    · rw [if_neg hc] at hf
      obtain ⟨x38, hx, hf⟩ := Option.bind_eq_some_iff.mp hf
      refine zEv_call 4 (N := 109) (vs := [.int a2, .int 1, .int 9]) (v1 := some (.int x38)) (h1 := zHp I) (L := [some (.ref 1), some (.int a0), some (.int a1), some (.int a2), none]) (rest := []) (pc := 23) (fun n => rfl) (s_BM_isWithin hx d (by omega)) rfl rfl ?_
      show zEv _ _ _ (23, [some (.ref 1), some (.int a0), some (.int a1), some (.int a2), none], [.int x38]) _ _ _
      refine zEv_if 1 (c := x38 = 0) (f1 := (26, [some (.ref 1), some (.int a0), some (.int a1), some (.int a2), none], [])) (f2 := (29, [some (.ref 1), some (.int a0), some (.int a1), some (.int a2), none], [])) (h1 := zHp I) (fun n => rfl) (fun hc => ?_) (fun hc => ?_)
      · rw [if_pos hc] at hf
        cases hf
        exact zEv_ret 2 (fun n => rfl)
      · rw [if_neg hc] at hf
        obtain ⟨x39, hx, hf⟩ := Option.bind_eq_some_iff.mp hf
        refine zEv_call 4 (N := 19) (vs := [.ref 2, .int a0]) (v1 := some (.int x39)) (h1 := zHp I) (L := [some (.ref 1), some (.int a0), some (.int a1), some (.int a2), none]) (rest := []) (pc := 37) (fun n => rfl) (s_Ga_placeOf_2 hx d (by omega)) rfl rfl ?_
        show zEv _ _ _ (37, [some (.ref 1), some (.int a0), some (.int a1), some (.int a2), none], [.int x39]) _ _ _
        obtain ⟨x41, hx, hf⟩ := Option.bind_eq_some_iff.mp hf
        refine zEv_call 7 (N := 21) (vs := [.ref 2, .int a1]) (v1 := some (.int x41)) (h1 := zHp I) (L := [some (.ref 1), some (.int a0), some (.int a1), some (.int a2), some (.int x39)]) (rest := [.ref 2]) (pc := 51) (fun n => rfl) (s_Ga_lyingOn_2 hx d (by omega)) rfl rfl ?_
        show zEv _ _ _ (51, [some (.ref 1), some (.int a0), some (.int a1), some (.int a2), some (.int x39)], [.int x41, .ref 2]) _ _ _
        obtain ⟨I42, hx, hf⟩ := Option.bind_eq_some_iff.mp hf
        refine zEv_call 1 (N := 26) (vs := [.ref 2, .int x41]) (v1 := none) (h1 := zHp I42) (L := [some (.ref 1), some (.int a0), some (.int a1), some (.int a2), some (.int x39)]) (rest := []) (pc := 54) (fun n => rfl) (s_Ga_makeNowhere_2 hx d (by omega)) rfl rfl ?_
        show zEv _ _ _ (54, [some (.ref 1), some (.int a0), some (.int a1), some (.int a2), some (.int x39)], []) _ _ _
        obtain ⟨I45, hx, hf⟩ := Option.bind_eq_some_iff.mp hf
        refine zEv_call 6 (N := 27) (vs := [.ref 2, .int a0, .int a1, .int a2]) (v1 := none) (h1 := zHp I45) (L := [some (.ref 1), some (.int a0), some (.int a1), some (.int a2), some (.int x39)]) (rest := []) (pc := 64) (fun n => rfl) (s_Ga_putOn_2 hx d (by omega)) rfl rfl ?_
        show zEv _ _ _ (64, [some (.ref 1), some (.int a0), some (.int a1), some (.int a2), some (.int x39)], []) _ _ _
        cases hf
        exact zEv_ret 2 (fun n => rfl)
def BM_forget  (a0 : Int32) (I : zI) : Option (Int32 × zI) :=
  (BM_isMemory a0 I).bind fun x46 =>
  if x46 = 0 then
    some ((-1), I)
  else
    (Ga_placeOf_2 a0 I).bind fun x47 =>
    (Ga_makeNowhere_2 a0 I).bind fun I48 =>
    some (x47, I48)
theorem s_BM_forget  {a0 : Int32} {I : zI} {r : Int32} {I' : zI} (hf : BM_forget a0 I = some (r, I')) (d : Nat) (hd : 2 ≤ d) : zCall d 83 [.ref 1, .int a0] (zHp I) (some (.int r)) (zHp I') := by
  obtain ⟨d, rfl⟩ : ∃ e, d = e + 1 := ⟨d - 1, by omega⟩
  rw [BM_forget] at hf
  show zEv _ _ _ (0, [some (.ref 1), some (.int a0), none], []) _ _ _
  obtain ⟨x46, hx, hf⟩ := Option.bind_eq_some_iff.mp hf
  refine zEv_call 2 (N := 112) (vs := [.int a0]) (v1 := some (.int x46)) (h1 := zHp I) (L := [some (.ref 1), some (.int a0), none]) (rest := []) (pc := 4) (fun n => rfl) (s_BM_isMemory hx d (by omega)) rfl rfl ?_
  show zEv _ _ _ (4, [some (.ref 1), some (.int a0), none], [.int x46]) _ _ _
  refine zEv_if 1 (c := x46 = 0) (f1 := (7, [some (.ref 1), some (.int a0), none], [])) (f2 := (9, [some (.ref 1), some (.int a0), none], [])) (h1 := zHp I) (fun n => rfl) (fun hc => ?_) (fun hc => ?_)
  · rw [if_pos hc] at hf
    cases hf
    exact zEv_ret 2 (fun n => rfl)
  · rw [if_neg hc] at hf
    obtain ⟨x47, hx, hf⟩ := Option.bind_eq_some_iff.mp hf
    refine zEv_call 4 (N := 19) (vs := [.ref 2, .int a0]) (v1 := some (.int x47)) (h1 := zHp I) (L := [some (.ref 1), some (.int a0), none]) (rest := []) (pc := 17) (fun n => rfl) (s_Ga_placeOf_2 hx d (by omega)) rfl rfl ?_
    show zEv _ _ _ (17, [some (.ref 1), some (.int a0), none], [.int x47]) _ _ _
    obtain ⟨I48, hx, hf⟩ := Option.bind_eq_some_iff.mp hf
    refine zEv_call 5 (N := 26) (vs := [.ref 2, .int a0]) (v1 := none) (h1 := zHp I48) (L := [some (.ref 1), some (.int a0), some (.int x47)]) (rest := []) (pc := 26) (fun n => rfl) (s_Ga_makeNowhere_2 hx d (by omega)) rfl rfl ?_
    show zEv _ _ _ (26, [some (.ref 1), some (.int a0), some (.int x47)], []) _ _ _
    cases hf
    exact zEv_ret 2 (fun n => rfl)
def Rw_put_36  (a0 : Int32) (a1 : Int32) (I : zI) : Option (zI) :=
  if a0 < 0 then
    some I
  else
    if 60 ≤ a0 then
      some I
    else
      if zIn a0 60 then
        some (zUp I 37 (Int32.toNatClampNeg a0) a1)
      else none
theorem s_Rw_put_36  {a0 : Int32} {a1 : Int32} {I : zI} {I' : zI} (hf : Rw_put_36 a0 a1 I = some I') (d : Nat) (hd : 0 ≤ d) : zCall d 61 [.ref 36, .int a0, .int a1] (zHp I) (none) (zHp I') := by
  rw [Rw_put_36] at hf
  show zEv _ _ _ (0, [some (.ref 36), some (.int a0), some (.int a1)], []) _ _ _
  refine zEv_if 2 (c := a0 < 0) (f1 := (20, [some (.ref 36), some (.int a0), some (.int a1)], [])) (f2 := (4, [some (.ref 36), some (.int a0), some (.int a1)], [])) (h1 := zHp I) (fun n => rfl) (fun hc => ?_) (fun hc => ?_)
  · rw [if_pos hc] at hf
    cases hf
    exact zEv_ret 1 (fun n => rfl)
  · rw [if_neg hc] at hf
    refine zEv_if 5 (c := 60 ≤ a0) (f1 := (20, [some (.ref 36), some (.int a0), some (.int a1)], [])) (f2 := (13, [some (.ref 36), some (.int a0), some (.int a1)], [])) (h1 := zHp I) (fun n => rfl) (fun hc => ?_) (fun hc => ?_)
    · rw [if_pos hc] at hf
      cases hf
      exact zEv_ret 1 (fun n => rfl)
    · rw [if_neg hc] at hf
      obtain ⟨hc, hf⟩ := zGd_inv hf
      refine zEv_gd 5 (c := zIn a0 60) (f1 := (20, [some (.ref 36), some (.int a0), some (.int a1)], [])) (h1 := zHp (zUp I 37 (Int32.toNatClampNeg a0) a1)) (fun n => rfl) hc ?_
      cases hf
      exact zEv_ret 1 (fun n => rfl)
def Pa_append  (a0 : Int32) (I : zI) : Option (zI) :=
  (Rw_put_36 (I 35 1) a0 I).bind fun I50 =>
  some (zUp I50 35 1 ((I50 35 1) + 1))
theorem s_Pa_append  {a0 : Int32} {I : zI} {I' : zI} (hf : Pa_append a0 I = some I') (d : Nat) (hd : 1 ≤ d) : zCall d 46 [.ref 35, .int a0] (zHp I) (none) (zHp I') := by
  obtain ⟨d, rfl⟩ : ∃ e, d = e + 1 := ⟨d - 1, by omega⟩
  rw [Pa_append] at hf
  show zEv _ _ _ (0, [some (.ref 35), some (.int a0)], []) _ _ _
  obtain ⟨I50, hx, hf⟩ := Option.bind_eq_some_iff.mp hf
  refine zEv_call 6 (N := 61) (vs := [.ref 36, .int (I 35 1), .int a0]) (v1 := none) (h1 := zHp I50) (L := [some (.ref 35), some (.int a0)]) (rest := []) (pc := 12) (fun n => rfl) (s_Rw_put_36 hx d (by omega)) rfl rfl ?_
  show zEv _ _ _ (12, [some (.ref 35), some (.int a0)], []) _ _ _
  cases hf
  exact zEv_ret 7 (fun n => rfl)
def BM_say  (a0 : Int32) (I : zI) : Option (Int32 × zI) :=
  (BM_isWithin a0 33 126 I).bind fun x49 =>
  if x49 = 0 then
    some ((-2), I)
  else
    if (I 35 1) < 60 then
      (Pa_append a0 I).bind fun I51 =>
      some ((I51 35 1), I51)
    else
      some ((-4), I)
theorem s_BM_say  {a0 : Int32} {I : zI} {r : Int32} {I' : zI} (hf : BM_say a0 I = some (r, I')) (d : Nat) (hd : 2 ≤ d) : zCall d 84 [.ref 1, .int a0] (zHp I) (some (.int r)) (zHp I') := by
  obtain ⟨d, rfl⟩ : ∃ e, d = e + 1 := ⟨d - 1, by omega⟩
  rw [BM_say] at hf
  show zEv _ _ _ (0, [some (.ref 1), some (.int a0)], []) _ _ _
  obtain ⟨x49, hx, hf⟩ := Option.bind_eq_some_iff.mp hf
  refine zEv_call 4 (N := 109) (vs := [.int a0, .int 33, .int 126]) (v1 := some (.int x49)) (h1 := zHp I) (L := [some (.ref 1), some (.int a0)]) (rest := []) (pc := 8) (fun n => rfl) (s_BM_isWithin hx d (by omega)) rfl rfl ?_
  show zEv _ _ _ (8, [some (.ref 1), some (.int a0)], [.int x49]) _ _ _
  refine zEv_if 1 (c := x49 = 0) (f1 := (11, [some (.ref 1), some (.int a0)], [])) (f2 := (14, [some (.ref 1), some (.int a0)], [])) (h1 := zHp I) (fun n => rfl) (fun hc => ?_) (fun hc => ?_)
  · rw [if_pos hc] at hf
    cases hf
    exact zEv_ret 2 (fun n => rfl)
  · rw [if_neg hc] at hf
    refine zEv_if 5 (c := (I 35 1) < 60) (f1 := (29, [some (.ref 1), some (.int a0)], [])) (f2 := (26, [some (.ref 1), some (.int a0)], [])) (h1 := zHp I) (fun n => rfl) (fun hc => ?_) (fun hc => ?_)
    · rw [if_pos hc] at hf
      obtain ⟨I51, hx, hf⟩ := Option.bind_eq_some_iff.mp hf
      refine zEv_call 4 (N := 46) (vs := [.ref 35, .int a0]) (v1 := none) (h1 := zHp I51) (L := [some (.ref 1), some (.int a0)]) (rest := []) (pc := 37) (fun n => rfl) (s_Pa_append hx d (by omega)) rfl rfl ?_
      show zEv _ _ _ (37, [some (.ref 1), some (.int a0)], []) _ _ _
      cases hf
      exact zEv_ret 4 (fun n => rfl)
    · rw [if_neg hc] at hf
      cases hf
      exact zEv_ret 2 (fun n => rfl)
def Pa_empty  (I : zI) : Option (zI) :=
  some (zUp I 35 1 0)
theorem s_Pa_empty  {I : zI} {I' : zI} (hf : Pa_empty I = some I') (d : Nat) (hd : 0 ≤ d) : zCall d 47 [.ref 35] (zHp I) (none) (zHp I') := by
  rw [Pa_empty] at hf
  show zEv _ _ _ (0, [some (.ref 35)], []) _ _ _
  cases hf
  exact zEv_ret 4 (fun n => rfl)
def BM_wipe  (I : zI) : Option (Int32 × zI) :=
  (Pa_empty I).bind fun I52 =>
  some ((I 35 1), I52)
theorem s_BM_wipe  {I : zI} {r : Int32} {I' : zI} (hf : BM_wipe I = some (r, I')) (d : Nat) (hd : 1 ≤ d) : zCall d 85 [.ref 1] (zHp I) (some (.int r)) (zHp I') := by
  obtain ⟨d, rfl⟩ : ∃ e, d = e + 1 := ⟨d - 1, by omega⟩
  rw [BM_wipe] at hf
  show zEv _ _ _ (0, [some (.ref 1), none], []) _ _ _
  obtain ⟨I52, hx, hf⟩ := Option.bind_eq_some_iff.mp hf
  refine zEv_call 7 (N := 47) (vs := [.ref 35]) (v1 := none) (h1 := zHp I52) (L := [some (.ref 1), some (.int (I 35 1))]) (rest := []) (pc := 15) (fun n => rfl) (s_Pa_empty hx d (by omega)) rfl rfl ?_
  show zEv _ _ _ (15, [some (.ref 1), some (.int (I 35 1))], []) _ _ _
  cases hf
  exact zEv_ret 2 (fun n => rfl)
def Rw_at_36  (a0 : Int32) (I : zI) : Option (Int32) :=
  if a0 < 0 then
    some (-6)
  else
    if 60 ≤ a0 then
      some (-6)
    else
      if zIn a0 60 then
        some (I 37 (Int32.toNatClampNeg a0))
      else none
theorem s_Rw_at_36  {a0 : Int32} {I : zI} {r : Int32} (hf : Rw_at_36 a0 I = some r) (d : Nat) (hd : 0 ≤ d) : zCall d 60 [.ref 36, .int a0] (zHp I) (some (.int r)) (zHp I) := by
  rw [Rw_at_36] at hf
  show zEv _ _ _ (0, [some (.ref 36), some (.int a0)], []) _ _ _
  refine zEv_if 2 (c := a0 < 0) (f1 := (22, [some (.ref 36), some (.int a0)], [])) (f2 := (4, [some (.ref 36), some (.int a0)], [])) (h1 := zHp I) (fun n => rfl) (fun hc => ?_) (fun hc => ?_)
  · rw [if_pos hc] at hf
    cases hf
    exact zEv_ret 2 (fun n => rfl)
  · rw [if_neg hc] at hf
    refine zEv_if 5 (c := 60 ≤ a0) (f1 := (22, [some (.ref 36), some (.int a0)], [])) (f2 := (13, [some (.ref 36), some (.int a0)], [])) (h1 := zHp I) (fun n => rfl) (fun hc => ?_) (fun hc => ?_)
    · rw [if_pos hc] at hf
      cases hf
      exact zEv_ret 2 (fun n => rfl)
    · rw [if_neg hc] at hf
      obtain ⟨hc, hf⟩ := zGd_inv hf
      refine zEv_gd 4 (c := zIn a0 60) (f1 := (19, [some (.ref 36), some (.int a0)], [.int (I 37 (Int32.toNatClampNeg a0))])) (h1 := zHp I) (fun n => rfl) hc ?_
      cases hf
      exact zEv_ret 2 (fun n => rfl)
def Pa_dueBehindStart  (a0 : Int32) (I : zI) : Option (Int32) :=
  (BM_isOne (a0 - 65) I).bind fun x54 =>
  if x54 = 0 then
    if a0 = 35 then
      some 2
    else if a0 = 46 then
      some 0
    else
      some (-6)
  else
    some 1
theorem s_Pa_dueBehindStart  {a0 : Int32} {I : zI} {r : Int32} (hf : Pa_dueBehindStart a0 I = some r) (d : Nat) (hd : 2 ≤ d) : zCall d 50 [.int a0] (zHp I) (some (.int r)) (zHp I) := by
  obtain ⟨d, rfl⟩ : ∃ e, d = e + 1 := ⟨d - 1, by omega⟩
  rw [Pa_dueBehindStart] at hf
  show zEv _ _ _ (0, [some (.int a0)], []) _ _ _
  obtain ⟨x54, hx, hf⟩ := Option.bind_eq_some_iff.mp hf
  refine zEv_call 4 (N := 111) (vs := [.int (a0 - 65)]) (v1 := some (.int x54)) (h1 := zHp I) (L := [some (.int a0)]) (rest := []) (pc := 7) (fun n => rfl) (s_BM_isOne hx d (by omega)) rfl rfl ?_
  show zEv _ _ _ (7, [some (.int a0)], [.int x54]) _ _ _
  refine zEv_if 1 (c := x54 = 0) (f1 := (12, [some (.int a0)], [])) (f2 := (10, [some (.int a0)], [])) (h1 := zHp I) (fun n => rfl) (fun hc => ?_) (fun hc => ?_)
  · rw [if_pos hc] at hf
    refine zEv_go 1 (f1 := (13, [some (.int a0)], [.int a0])) (h1 := zHp I) (fun n => rfl) ?_
    by_cases hc0 : a0 = 35
    · rw [if_pos hc0] at hf
      refine zEv_ls (off := 27) (t := 40) (by rfl) (by decide) (by rw [hc0]; decide) rfl ?_
      cases hf
      exact zEv_ret 2 (fun n => rfl)
    rw [if_neg hc0] at hf
    by_cases hc1 : a0 = 46
    · rw [if_pos hc1] at hf
      refine zEv_ls (off := 29) (t := 42) (by rfl) (by decide) (by rw [hc1]; decide) rfl ?_
      cases hf
      exact zEv_ret 2 (fun n => rfl)
    rw [if_neg hc1] at hf
    have hn0 := zNt (k := 35) hc0 (by decide)
    have hn1 := zNt (k := 46) hc1 (by decide)
    refine zEv_ls (off := 31) (t := 44) (by rfl) (by decide) (by simp only [Array.toList, Op.lookupswitch.offset_cons]; rw [if_neg (fun q => hn0 q.symm)]; rw [if_neg (fun q => hn1 q.symm)]; rfl) rfl ?_
    cases hf
    exact zEv_ret 2 (fun n => rfl)
  · rw [if_neg hc] at hf
    cases hf
    exact zEv_ret 2 (fun n => rfl)
