set_option maxRecDepth 100000
def Mo_isIn  (a0 : Int32) (a1 : Int32) (I : zI) : Option (Int32) :=
  if ((zShr a0 a1) &&& 1) = 1 then
    some 1
  else
    some 0
theorem s_Mo_isIn  {a0 : Int32} {a1 : Int32} {I : zI} {r : Int32} (hf : Mo_isIn a0 a1 I = some r) (d : Nat) (hd : 0 ≤ d) : zCall d 121 [.int a0, .int a1] (zHp I) (some (.int r)) (zHp I) := by
  rw [Mo_isIn] at hf
  show zEv _ _ _ (0, [some (.int a0), some (.int a1)], []) _ _ _
  refine zEv_if 7 (c := ((zShr a0 a1) &&& 1) = 1) (f1 := (9, [some (.int a0), some (.int a1)], [])) (f2 := (13, [some (.int a0), some (.int a1)], [])) (h1 := zHp I) (fun n => rfl) (fun hc => ?_) (fun hc => ?_)
  · rw [if_pos hc] at hf
    cases hf
    exact zEv_ret 3 (fun n => rfl)
  · rw [if_neg hc] at hf
    cases hf
    exact zEv_ret 2 (fun n => rfl)
def Mo_whyNoSeat  (a0 : Int32) (I : zI) : Option (Int32) :=
  if zIn a0 8 then
    (Mo_isIn (I 73 5) (I 75 (Int32.toNatClampNeg a0)) I).bind fun x532 =>
    if x532 = 0 then
      if zIn a0 8 then
        if 0 ≤ (I 76 (Int32.toNatClampNeg a0)) then
          some 0
        else
          if zIn (I 75 (Int32.toNatClampNeg a0)) 10 then
            if 0 ≤ (I 77 (Int32.toNatClampNeg (I 75 (Int32.toNatClampNeg a0)))) then
              some 0
            else
              some 3
          else none
      else none
    else
      some 2
  else none
theorem s_Mo_whyNoSeat  {a0 : Int32} {I : zI} {r : Int32} (hf : Mo_whyNoSeat a0 I = some r) (d : Nat) (hd : 1 ≤ d) : zCall d 139 [.ref 73, .int a0] (zHp I) (some (.int r)) (zHp I) := by
  obtain ⟨d, rfl⟩ : ∃ e, d = e + 1 := ⟨d - 1, by omega⟩
  rw [Mo_whyNoSeat] at hf
  show zEv _ _ _ (0, [some (.ref 73), some (.int a0), none], []) _ _ _
  obtain ⟨hc, hf⟩ := zGd_inv hf
  refine zEv_gd 4 (c := zIn a0 8) (f1 := (6, [some (.ref 73), some (.int a0), none], [.int (I 75 (Int32.toNatClampNeg a0))])) (h1 := zHp I) (fun n => rfl) hc ?_
  obtain ⟨x532, hx, hf⟩ := Option.bind_eq_some_iff.mp hf
  refine zEv_call 5 (N := 121) (vs := [.int (I 73 5), .int (I 75 (Int32.toNatClampNeg a0))]) (v1 := some (.int x532)) (h1 := zHp I) (L := [some (.ref 73), some (.int a0), some (.int (I 75 (Int32.toNatClampNeg a0)))]) (rest := []) (pc := 15) (fun n => rfl) (s_Mo_isIn hx d (by omega)) rfl rfl ?_
  show zEv _ _ _ (15, [some (.ref 73), some (.int a0), some (.int (I 75 (Int32.toNatClampNeg a0)))], [.int x532]) _ _ _
  refine zEv_if 1 (c := x532 = 0) (f1 := (22, [some (.ref 73), some (.int a0), some (.int (I 75 (Int32.toNatClampNeg a0)))], [])) (f2 := (18, [some (.ref 73), some (.int a0), some (.int (I 75 (Int32.toNatClampNeg a0)))], [])) (h1 := zHp I) (fun n => rfl) (fun hc => ?_) (fun hc => ?_)
  · rw [if_pos hc] at hf
    obtain ⟨hc, hf⟩ := zGd_inv hf
    refine zEv_gd 4 (c := zIn a0 8) (f1 := (28, [some (.ref 73), some (.int a0), some (.int (I 75 (Int32.toNatClampNeg a0)))], [.int (I 76 (Int32.toNatClampNeg a0))])) (h1 := zHp I) (fun n => rfl) hc ?_
    refine zEv_if 1 (c := 0 ≤ (I 76 (Int32.toNatClampNeg a0))) (f1 := (44, [some (.ref 73), some (.int a0), some (.int (I 75 (Int32.toNatClampNeg a0)))], [])) (f2 := (31, [some (.ref 73), some (.int a0), some (.int (I 75 (Int32.toNatClampNeg a0)))], [])) (h1 := zHp I) (fun n => rfl) (fun hc => ?_) (fun hc => ?_)
    · rw [if_pos hc] at hf
      cases hf
      exact zEv_ret 2 (fun n => rfl)
    · rw [if_neg hc] at hf
      obtain ⟨hc, hf⟩ := zGd_inv hf
      refine zEv_gd 4 (c := zIn (I 75 (Int32.toNatClampNeg a0)) 10) (f1 := (37, [some (.ref 73), some (.int a0), some (.int (I 75 (Int32.toNatClampNeg a0)))], [.int (I 77 (Int32.toNatClampNeg (I 75 (Int32.toNatClampNeg a0))))])) (h1 := zHp I) (fun n => rfl) hc ?_
      refine zEv_if 1 (c := 0 ≤ (I 77 (Int32.toNatClampNeg (I 75 (Int32.toNatClampNeg a0))))) (f1 := (44, [some (.ref 73), some (.int a0), some (.int (I 75 (Int32.toNatClampNeg a0)))], [])) (f2 := (40, [some (.ref 73), some (.int a0), some (.int (I 75 (Int32.toNatClampNeg a0)))], [])) (h1 := zHp I) (fun n => rfl) (fun hc => ?_) (fun hc => ?_)
      · rw [if_pos hc] at hf
        cases hf
        exact zEv_ret 2 (fun n => rfl)
      · rw [if_neg hc] at hf
        cases hf
        exact zEv_ret 3 (fun n => rfl)
  · rw [if_neg hc] at hf
    cases hf
    exact zEv_ret 3 (fun n => rfl)
def Mo_whyNoChange  (a0 : Int32) (a1 : Int32) (I : zI) : Option (Int32) :=
  if zIn a0 8 then
    if 0 ≤ (I 76 (Int32.toNatClampNeg a0)) then
      if a0 = a1 then
        some 4
      else
        if zIn a0 8 then
          if zIn a1 8 then
            if (I 75 (Int32.toNatClampNeg a0)) = (I 75 (Int32.toNatClampNeg a1)) then
              some 0
            else
              some 4
          else none
        else none
    else
      if zIn a1 8 then
        if 0 ≤ (I 76 (Int32.toNatClampNeg a1)) then
          if a0 = a1 then
            some 4
          else
            if zIn a0 8 then
              if zIn a1 8 then
                if (I 75 (Int32.toNatClampNeg a0)) = (I 75 (Int32.toNatClampNeg a1)) then
                  some 0
                else
                  some 4
              else none
            else none
        else
          some 3
      else none
  else none
theorem s_Mo_whyNoChange  {a0 : Int32} {a1 : Int32} {I : zI} {r : Int32} (hf : Mo_whyNoChange a0 a1 I = some r) (d : Nat) (hd : 0 ≤ d) : zCall d 140 [.ref 73, .int a0, .int a1] (zHp I) (some (.int r)) (zHp I) := by
  rw [Mo_whyNoChange] at hf
  show zEv _ _ _ (0, [some (.ref 73), some (.int a0), some (.int a1)], []) _ _ _
  obtain ⟨hc, hf⟩ := zGd_inv hf
  refine zEv_gd 4 (c := zIn a0 8) (f1 := (6, [some (.ref 73), some (.int a0), some (.int a1)], [.int (I 76 (Int32.toNatClampNeg a0))])) (h1 := zHp I) (fun n => rfl) hc ?_
  refine zEv_if 1 (c := 0 ≤ (I 76 (Int32.toNatClampNeg a0))) (f1 := (22, [some (.ref 73), some (.int a0), some (.int a1)], [])) (f2 := (9, [some (.ref 73), some (.int a0), some (.int a1)], [])) (h1 := zHp I) (fun n => rfl) (fun hc => ?_) (fun hc => ?_)
  · rw [if_pos hc] at hf
    refine zEv_if 3 (c := a0 = a1) (f1 := (42, [some (.ref 73), some (.int a0), some (.int a1)], [])) (f2 := (27, [some (.ref 73), some (.int a0), some (.int a1)], [])) (h1 := zHp I) (fun n => rfl) (fun hc => ?_) (fun hc => ?_)
    · rw [if_pos hc] at hf
      cases hf
      exact zEv_ret 3 (fun n => rfl)
    · rw [if_neg hc] at hf
      obtain ⟨hc, hf⟩ := zGd_inv hf
      refine zEv_gd 4 (c := zIn a0 8) (f1 := (33, [some (.ref 73), some (.int a0), some (.int a1)], [.int (I 75 (Int32.toNatClampNeg a0))])) (h1 := zHp I) (fun n => rfl) hc ?_
      obtain ⟨hc, hf⟩ := zGd_inv hf
      refine zEv_gd 4 (c := zIn a1 8) (f1 := (39, [some (.ref 73), some (.int a0), some (.int a1)], [.int (I 75 (Int32.toNatClampNeg a1)), .int (I 75 (Int32.toNatClampNeg a0))])) (h1 := zHp I) (fun n => rfl) hc ?_
      refine zEv_if 1 (c := (I 75 (Int32.toNatClampNeg a0)) = (I 75 (Int32.toNatClampNeg a1))) (f1 := (46, [some (.ref 73), some (.int a0), some (.int a1)], [])) (f2 := (42, [some (.ref 73), some (.int a0), some (.int a1)], [])) (h1 := zHp I) (fun n => rfl) (fun hc => ?_) (fun hc => ?_)
      · rw [if_pos hc] at hf
        cases hf
        exact zEv_ret 2 (fun n => rfl)
      · rw [if_neg hc] at hf
        cases hf
        exact zEv_ret 3 (fun n => rfl)
  · rw [if_neg hc] at hf
    obtain ⟨hc, hf⟩ := zGd_inv hf
    refine zEv_gd 4 (c := zIn a1 8) (f1 := (15, [some (.ref 73), some (.int a0), some (.int a1)], [.int (I 76 (Int32.toNatClampNeg a1))])) (h1 := zHp I) (fun n => rfl) hc ?_
    refine zEv_if 1 (c := 0 ≤ (I 76 (Int32.toNatClampNeg a1))) (f1 := (22, [some (.ref 73), some (.int a0), some (.int a1)], [])) (f2 := (18, [some (.ref 73), some (.int a0), some (.int a1)], [])) (h1 := zHp I) (fun n => rfl) (fun hc => ?_) (fun hc => ?_)
    · rw [if_pos hc] at hf
      refine zEv_if 3 (c := a0 = a1) (f1 := (42, [some (.ref 73), some (.int a0), some (.int a1)], [])) (f2 := (27, [some (.ref 73), some (.int a0), some (.int a1)], [])) (h1 := zHp I) (fun n => rfl) (fun hc => ?_) (fun hc => ?_)
      · rw [if_pos hc] at hf
        cases hf
        exact zEv_ret 3 (fun n => rfl)
      · rw [if_neg hc] at hf
        obtain ⟨hc, hf⟩ := zGd_inv hf
        refine zEv_gd 4 (c := zIn a0 8) (f1 := (33, [some (.ref 73), some (.int a0), some (.int a1)], [.int (I 75 (Int32.toNatClampNeg a0))])) (h1 := zHp I) (fun n => rfl) hc ?_
        obtain ⟨hc, hf⟩ := zGd_inv hf
        refine zEv_gd 4 (c := zIn a1 8) (f1 := (39, [some (.ref 73), some (.int a0), some (.int a1)], [.int (I 75 (Int32.toNatClampNeg a1)), .int (I 75 (Int32.toNatClampNeg a0))])) (h1 := zHp I) (fun n => rfl) hc ?_
        refine zEv_if 1 (c := (I 75 (Int32.toNatClampNeg a0)) = (I 75 (Int32.toNatClampNeg a1))) (f1 := (46, [some (.ref 73), some (.int a0), some (.int a1)], [])) (f2 := (42, [some (.ref 73), some (.int a0), some (.int a1)], [])) (h1 := zHp I) (fun n => rfl) (fun hc => ?_) (fun hc => ?_)
        · rw [if_pos hc] at hf
          cases hf
          exact zEv_ret 2 (fun n => rfl)
        · rw [if_neg hc] at hf
          cases hf
          exact zEv_ret 3 (fun n => rfl)
    · rw [if_neg hc] at hf
      cases hf
      exact zEv_ret 3 (fun n => rfl)
def Mo_whyNot  (a0 : Int32) (a1 : Int32) (a2 : Int32) (I : zI) : Option (Int32) :=
  if a0 = 0 then
    if zIn a1 8 then
      if zIn (I 75 (Int32.toNatClampNeg a1)) 10 then
        (Mo_isIn (I 74 (Int32.toNatClampNeg (I 75 (Int32.toNatClampNeg a1)))) a2 I).bind fun x531 =>
        if x531 = 0 then
          some 1
        else
          some 0
      else none
    else none
  else if a0 = 1 then
    (Mo_whyNoSeat a1 I).bind fun x533 =>
    some x533
  else if a0 = 2 then
    (Mo_whyNoChange a1 a2 I).bind fun x534 =>
    some x534
  else if a0 = 3 then
    if zIn a1 8 then
      if 0 ≤ (I 76 (Int32.toNatClampNeg a1)) then
        some 0
      else
        some 3
    else none
  else if a0 = 4 then
    some 0
  else if a0 = 5 then
    if (I 73 6) = 99 then
      some 5
    else
      some 0
  else
    some 0
theorem s_Mo_whyNot  {a0 : Int32} {a1 : Int32} {a2 : Int32} {I : zI} {r : Int32} (hf : Mo_whyNot a0 a1 a2 I = some r) (d : Nat) (hd : 2 ≤ d) : zCall d 141 [.ref 73, .int a0, .int a1, .int a2] (zHp I) (some (.int r)) (zHp I) := by
  obtain ⟨d, rfl⟩ : ∃ e, d = e + 1 := ⟨d - 1, by omega⟩
  rw [Mo_whyNot] at hf
  show zEv _ _ _ (0, [some (.ref 73), some (.int a0), some (.int a1), some (.int a2)], []) _ _ _
  refine zEv_go 1 (f1 := (1, [some (.ref 73), some (.int a0), some (.int a1), some (.int a2)], [.int a0])) (h1 := zHp I) (fun n => rfl) ?_
  by_cases hc0 : a0 = 0
  · rw [if_pos hc0] at hf
    refine zEv_tsk (off := 39) (t := 40) 0 (by rfl) hc0 (by decide) rfl rfl ?_
    obtain ⟨hc, hf⟩ := zGd_inv hf
    refine zEv_gd 6 (c := zIn a1 8) (f1 := (50, [some (.ref 73), some (.int a0), some (.int a1), some (.int a2)], [.int (I 75 (Int32.toNatClampNeg a1)), .ref 74])) (h1 := zHp I) (fun n => rfl) hc ?_
    obtain ⟨hc, hf⟩ := zGd_inv hf
    refine zEv_gd 1 (c := zIn (I 75 (Int32.toNatClampNeg a1)) 10) (f1 := (51, [some (.ref 73), some (.int a0), some (.int a1), some (.int a2)], [.int (I 74 (Int32.toNatClampNeg (I 75 (Int32.toNatClampNeg a1))))])) (h1 := zHp I) (fun n => rfl) hc ?_
    obtain ⟨x531, hx, hf⟩ := Option.bind_eq_some_iff.mp hf
    refine zEv_call 2 (N := 121) (vs := [.int (I 74 (Int32.toNatClampNeg (I 75 (Int32.toNatClampNeg a1)))), .int a2]) (v1 := some (.int x531)) (h1 := zHp I) (L := [some (.ref 73), some (.int a0), some (.int a1), some (.int a2)]) (rest := []) (pc := 55) (fun n => rfl) (s_Mo_isIn hx d (by omega)) rfl rfl ?_
    show zEv _ _ _ (55, [some (.ref 73), some (.int a0), some (.int a1), some (.int a2)], [.int x531]) _ _ _
    refine zEv_if 1 (c := x531 = 0) (f1 := (62, [some (.ref 73), some (.int a0), some (.int a1), some (.int a2)], [])) (f2 := (58, [some (.ref 73), some (.int a0), some (.int a1), some (.int a2)], [])) (h1 := zHp I) (fun n => rfl) (fun hc => ?_) (fun hc => ?_)
    · rw [if_pos hc] at hf
      cases hf
      exact zEv_ret 2 (fun n => rfl)
    · rw [if_neg hc] at hf
      cases hf
      exact zEv_ret 3 (fun n => rfl)
  rw [if_neg hc0] at hf
  by_cases hc1 : a0 = 1
  · rw [if_pos hc1] at hf
    refine zEv_tsk (off := 63) (t := 64) 1 (by rfl) hc1 (by decide) rfl rfl ?_
    obtain ⟨x533, hx, hf⟩ := Option.bind_eq_some_iff.mp hf
    refine zEv_call 3 (N := 139) (vs := [.ref 73, .int a1]) (v1 := some (.int x533)) (h1 := zHp I) (L := [some (.ref 73), some (.int a0), some (.int a1), some (.int a2)]) (rest := []) (pc := 69) (fun n => rfl) (s_Mo_whyNoSeat hx d (by omega)) rfl rfl ?_
    show zEv _ _ _ (69, [some (.ref 73), some (.int a0), some (.int a1), some (.int a2)], [.int x533]) _ _ _
    cases hf
    exact zEv_ret 1 (fun n => rfl)
  rw [if_neg hc1] at hf
  by_cases hc2 : a0 = 2
  · rw [if_pos hc2] at hf
    refine zEv_tsk (off := 69) (t := 70) 2 (by rfl) hc2 (by decide) rfl rfl ?_
    obtain ⟨x534, hx, hf⟩ := Option.bind_eq_some_iff.mp hf
    refine zEv_call 4 (N := 140) (vs := [.ref 73, .int a1, .int a2]) (v1 := some (.int x534)) (h1 := zHp I) (L := [some (.ref 73), some (.int a0), some (.int a1), some (.int a2)]) (rest := []) (pc := 76) (fun n => rfl) (s_Mo_whyNoChange hx d (by omega)) rfl rfl ?_
    show zEv _ _ _ (76, [some (.ref 73), some (.int a0), some (.int a1), some (.int a2)], [.int x534]) _ _ _
    cases hf
    exact zEv_ret 1 (fun n => rfl)
  rw [if_neg hc2] at hf
  by_cases hc3 : a0 = 3
  · rw [if_pos hc3] at hf
    refine zEv_tsk (off := 76) (t := 77) 3 (by rfl) hc3 (by decide) rfl rfl ?_
    obtain ⟨hc, hf⟩ := zGd_inv hf
    refine zEv_gd 4 (c := zIn a1 8) (f1 := (83, [some (.ref 73), some (.int a0), some (.int a1), some (.int a2)], [.int (I 76 (Int32.toNatClampNeg a1))])) (h1 := zHp I) (fun n => rfl) hc ?_
    refine zEv_if 1 (c := 0 ≤ (I 76 (Int32.toNatClampNeg a1))) (f1 := (90, [some (.ref 73), some (.int a0), some (.int a1), some (.int a2)], [])) (f2 := (86, [some (.ref 73), some (.int a0), some (.int a1), some (.int a2)], [])) (h1 := zHp I) (fun n => rfl) (fun hc => ?_) (fun hc => ?_)
    · rw [if_pos hc] at hf
      cases hf
      exact zEv_ret 2 (fun n => rfl)
    · rw [if_neg hc] at hf
      cases hf
      exact zEv_ret 3 (fun n => rfl)
  rw [if_neg hc3] at hf
  by_cases hc4 : a0 = 4
  · rw [if_pos hc4] at hf
    refine zEv_tsk (off := 106) (t := 107) 4 (by rfl) hc4 (by decide) rfl rfl ?_
    cases hf
    exact zEv_ret 2 (fun n => rfl)
  rw [if_neg hc4] at hf
  by_cases hc5 : a0 = 5
  · rw [if_pos hc5] at hf
    refine zEv_tsk (off := 91) (t := 92) 5 (by rfl) hc5 (by decide) rfl rfl ?_
    refine zEv_if 4 (c := (I 73 6) = 99) (f1 := (101, [some (.ref 73), some (.int a0), some (.int a1), some (.int a2)], [])) (f2 := (105, [some (.ref 73), some (.int a0), some (.int a1), some (.int a2)], [])) (h1 := zHp I) (fun n => rfl) (fun hc => ?_) (fun hc => ?_)
    · rw [if_pos hc] at hf
      cases hf
      exact zEv_ret 3 (fun n => rfl)
    · rw [if_neg hc] at hf
      cases hf
      exact zEv_ret 2 (fun n => rfl)
  rw [if_neg hc5] at hf
  have hn0 := zNt (k := 0) hc0 (by decide)
  have hn1 := zNt (k := 1) hc1 (by decide)
  have hn2 := zNt (k := 2) hc2 (by decide)
  have hn3 := zNt (k := 3) hc3 (by decide)
  have hn4 := zNt (k := 4) hc4 (by decide)
  have hn5 := zNt (k := 5) hc5 (by decide)
  refine zEv_tsd (t := 107) (by rfl) (by omega) rfl ?_
  cases hf
  exact zEv_ret 2 (fun n => rfl)
def Mo_comeTo  (a0 : Int32) (a1 : Int32) (I : zI) : Option (zI) :=
  if zIn a0 8 then
    if a1 < 0 then
      some (zUp I 76 (Int32.toNatClampNeg a0) a1)
    else
      if zIn a1 12 then
        if zIn a1 12 then
          some (zUp (zUp I 76 (Int32.toNatClampNeg a0) a1) 86 (Int32.toNatClampNeg a1) (((zUp I 76 (Int32.toNatClampNeg a0) a1) 86 (Int32.toNatClampNeg a1)) + 1))
        else none
      else none
  else none
theorem s_Mo_comeTo  {a0 : Int32} {a1 : Int32} {I : zI} {I' : zI} (hf : Mo_comeTo a0 a1 I = some I') (d : Nat) (hd : 0 ≤ d) : zCall d 142 [.ref 73, .int a0, .int a1] (zHp I) (none) (zHp I') := by
  rw [Mo_comeTo] at hf
  show zEv _ _ _ (0, [some (.ref 73), some (.int a0), some (.int a1)], []) _ _ _
  obtain ⟨hc, hf⟩ := zGd_inv hf
  refine zEv_gd 5 (c := zIn a0 8) (f1 := (7, [some (.ref 73), some (.int a0), some (.int a1)], [])) (h1 := zHp (zUp I 76 (Int32.toNatClampNeg a0) a1)) (fun n => rfl) hc ?_
  refine zEv_if 2 (c := a1 < 0) (f1 := (21, [some (.ref 73), some (.int a0), some (.int a1)], [])) (f2 := (11, [some (.ref 73), some (.int a0), some (.int a1)], [])) (h1 := zHp (zUp I 76 (Int32.toNatClampNeg a0) a1)) (fun n => rfl) (fun hc => ?_) (fun hc => ?_)
  · rw [if_pos hc] at hf
    cases hf
    exact zEv_ret 1 (fun n => rfl)
  · rw [if_neg hc] at hf
    obtain ⟨hc, hf⟩ := zGd_inv hf
    refine zEv_gd 5 (c := zIn a1 12) (f1 := (18, [some (.ref 73), some (.int a0), some (.int a1)], [.int ((zUp I 76 (Int32.toNatClampNeg a0) a1) 86 (Int32.toNatClampNeg a1)), .int a1, .ref 86])) (h1 := zHp (zUp I 76 (Int32.toNatClampNeg a0) a1)) (fun n => rfl) hc ?_
    obtain ⟨hc, hf⟩ := zGd_inv hf
    refine zEv_gd 3 (c := zIn a1 12) (f1 := (21, [some (.ref 73), some (.int a0), some (.int a1)], [])) (h1 := zHp (zUp (zUp I 76 (Int32.toNatClampNeg a0) a1) 86 (Int32.toNatClampNeg a1) (((zUp I 76 (Int32.toNatClampNeg a0) a1) 86 (Int32.toNatClampNeg a1)) + 1))) (fun n => rfl) hc ?_
    cases hf
    exact zEv_ret 1 (fun n => rfl)
def Mo_sit  (a0 : Int32) (I : zI) : Option (zI) :=
  if zIn a0 8 then
    if zIn a0 8 then
      if zIn (I 75 (Int32.toNatClampNeg a0)) 10 then
        (Mo_comeTo a0 (I 77 (Int32.toNatClampNeg (I 75 (Int32.toNatClampNeg a0)))) I).bind fun I541 =>
        if zIn (I 75 (Int32.toNatClampNeg a0)) 10 then
          (
            if 0 ≤ (I 76 (Int32.toNatClampNeg a0)) then
              some 9
            else
              some (-6) : Option (Int32)).bind fun x543 =>
          if zIn (I 75 (Int32.toNatClampNeg a0)) 10 then
            some (zUp (zUp I541 77 (Int32.toNatClampNeg (I 75 (Int32.toNatClampNeg a0))) (I 76 (Int32.toNatClampNeg a0))) 78 (Int32.toNatClampNeg (I 75 (Int32.toNatClampNeg a0))) x543)
          else none
        else none
      else none
    else none
  else none
theorem s_Mo_sit  {a0 : Int32} {I : zI} {I' : zI} (hf : Mo_sit a0 I = some I') (d : Nat) (hd : 1 ≤ d) : zCall d 143 [.ref 73, .int a0] (zHp I) (none) (zHp I') := by
  obtain ⟨d, rfl⟩ : ∃ e, d = e + 1 := ⟨d - 1, by omega⟩
  rw [Mo_sit] at hf
  show zEv _ _ _ (0, [some (.ref 73), some (.int a0), none, none], []) _ _ _
  obtain ⟨hc, hf⟩ := zGd_inv hf
  refine zEv_gd 4 (c := zIn a0 8) (f1 := (6, [some (.ref 73), some (.int a0), none, none], [.int (I 75 (Int32.toNatClampNeg a0))])) (h1 := zHp I) (fun n => rfl) hc ?_
  obtain ⟨hc, hf⟩ := zGd_inv hf
  refine zEv_gd 5 (c := zIn a0 8) (f1 := (13, [some (.ref 73), some (.int a0), some (.int (I 75 (Int32.toNatClampNeg a0))), none], [.int (I 76 (Int32.toNatClampNeg a0))])) (h1 := zHp I) (fun n => rfl) hc ?_
  obtain ⟨hc, hf⟩ := zGd_inv hf
  refine zEv_gd 7 (c := zIn (I 75 (Int32.toNatClampNeg a0)) 10) (f1 := (22, [some (.ref 73), some (.int a0), some (.int (I 75 (Int32.toNatClampNeg a0))), some (.int (I 76 (Int32.toNatClampNeg a0)))], [.int (I 77 (Int32.toNatClampNeg (I 75 (Int32.toNatClampNeg a0)))), .int a0, .ref 73])) (h1 := zHp I) (fun n => rfl) hc ?_
  obtain ⟨I541, hx, hf⟩ := Option.bind_eq_some_iff.mp hf
  refine zEv_call 1 (N := 142) (vs := [.ref 73, .int a0, .int (I 77 (Int32.toNatClampNeg (I 75 (Int32.toNatClampNeg a0))))]) (v1 := none) (h1 := zHp I541) (L := [some (.ref 73), some (.int a0), some (.int (I 75 (Int32.toNatClampNeg a0))), some (.int (I 76 (Int32.toNatClampNeg a0)))]) (rest := []) (pc := 25) (fun n => rfl) (s_Mo_comeTo hx d (by omega)) rfl rfl ?_
  show zEv _ _ _ (25, [some (.ref 73), some (.int a0), some (.int (I 75 (Int32.toNatClampNeg a0))), some (.int (I 76 (Int32.toNatClampNeg a0)))], []) _ _ _
  obtain ⟨hc, hf⟩ := zGd_inv hf
  refine zEv_gd 5 (c := zIn (I 75 (Int32.toNatClampNeg a0)) 10) (f1 := (32, [some (.ref 73), some (.int a0), some (.int (I 75 (Int32.toNatClampNeg a0))), some (.int (I 76 (Int32.toNatClampNeg a0)))], [])) (h1 := zHp (zUp I541 77 (Int32.toNatClampNeg (I 75 (Int32.toNatClampNeg a0))) (I 76 (Int32.toNatClampNeg a0)))) (fun n => rfl) hc ?_
  obtain ⟨x543, hm_m542, hf⟩ := Option.bind_eq_some_iff.mp hf
  have hJ_m542 : zEv none (d + 1) 143 (48, [some (.ref 73), none, none, none], [.int x543, .int (I 75 (Int32.toNatClampNeg a0)), .ref 78]) (zHp (zUp I541 77 (Int32.toNatClampNeg (I 75 (Int32.toNatClampNeg a0))) (I 76 (Int32.toNatClampNeg a0)))) (none) (zHp I') := by
    obtain ⟨hc, hf⟩ := zGd_inv hf
    refine zEv_gd 1 (c := zIn (I 75 (Int32.toNatClampNeg a0)) 10) (f1 := (49, [some (.ref 73), none, none, none], [])) (h1 := zHp (zUp (zUp I541 77 (Int32.toNatClampNeg (I 75 (Int32.toNatClampNeg a0))) (I 76 (Int32.toNatClampNeg a0))) 78 (Int32.toNatClampNeg (I 75 (Int32.toNatClampNeg a0))) x543)) (fun n => rfl) hc ?_
    cases hf
    exact zEv_ret 1 (fun n => rfl)
  clear hf
  refine zEv_if 5 (c := 0 ≤ (I 76 (Int32.toNatClampNeg a0))) (f1 := (46, [some (.ref 73), some (.int a0), some (.int (I 75 (Int32.toNatClampNeg a0))), some (.int (I 76 (Int32.toNatClampNeg a0)))], [.int (I 75 (Int32.toNatClampNeg a0)), .ref 78])) (f2 := (41, [some (.ref 73), some (.int a0), some (.int (I 75 (Int32.toNatClampNeg a0))), some (.int (I 76 (Int32.toNatClampNeg a0)))], [.int (I 75 (Int32.toNatClampNeg a0)), .ref 78])) (h1 := zHp (zUp I541 77 (Int32.toNatClampNeg (I 75 (Int32.toNatClampNeg a0))) (I 76 (Int32.toNatClampNeg a0)))) (fun n => rfl) (fun hc => ?_) (fun hc => ?_)
  · rw [if_pos hc] at hm_m542
    obtain rfl := Option.some.inj hm_m542
    refine zEv_go 1 (f1 := (48, [some (.ref 73), some (.int a0), some (.int (I 75 (Int32.toNatClampNeg a0))), some (.int (I 76 (Int32.toNatClampNeg a0)))], [.int 9, .int (I 75 (Int32.toNatClampNeg a0)), .ref 78])) (h1 := zHp (zUp I541 77 (Int32.toNatClampNeg (I 75 (Int32.toNatClampNeg a0))) (I 76 (Int32.toNatClampNeg a0)))) (fun n => rfl) ?_
    exact zEv_weak (L := [some (.ref 73), none, none, none]) (by exact ⟨rfl, ⟨rfl, ⟨rfl, ⟨rfl, trivial⟩⟩⟩⟩) hJ_m542
  · rw [if_neg hc] at hm_m542
    obtain rfl := Option.some.inj hm_m542
    refine zEv_go 2 (f1 := (48, [some (.ref 73), some (.int a0), some (.int (I 75 (Int32.toNatClampNeg a0))), some (.int (I 76 (Int32.toNatClampNeg a0)))], [.int (-6), .int (I 75 (Int32.toNatClampNeg a0)), .ref 78])) (h1 := zHp (zUp I541 77 (Int32.toNatClampNeg (I 75 (Int32.toNatClampNeg a0))) (I 76 (Int32.toNatClampNeg a0)))) (fun n => rfl) ?_
    exact zEv_weak (L := [some (.ref 73), none, none, none]) (by exact ⟨rfl, ⟨rfl, ⟨rfl, ⟨rfl, trivial⟩⟩⟩⟩) hJ_m542
def Mo_change  (a0 : Int32) (a1 : Int32) (I : zI) : Option (zI) :=
  if zIn a0 8 then
    if zIn a1 8 then
      (Mo_comeTo a0 (I 76 (Int32.toNatClampNeg a1)) I).bind fun I545 =>
      (Mo_comeTo a1 (I 76 (Int32.toNatClampNeg a0)) I545).bind fun I546 =>
      some I546
    else none
  else none
theorem s_Mo_change  {a0 : Int32} {a1 : Int32} {I : zI} {I' : zI} (hf : Mo_change a0 a1 I = some I') (d : Nat) (hd : 1 ≤ d) : zCall d 144 [.ref 73, .int a0, .int a1] (zHp I) (none) (zHp I') := by
  obtain ⟨d, rfl⟩ : ∃ e, d = e + 1 := ⟨d - 1, by omega⟩
  rw [Mo_change] at hf
  show zEv _ _ _ (0, [some (.ref 73), some (.int a0), some (.int a1), none], []) _ _ _
  obtain ⟨hc, hf⟩ := zGd_inv hf
  refine zEv_gd 4 (c := zIn a0 8) (f1 := (6, [some (.ref 73), some (.int a0), some (.int a1), none], [.int (I 76 (Int32.toNatClampNeg a0))])) (h1 := zHp I) (fun n => rfl) hc ?_
  obtain ⟨hc, hf⟩ := zGd_inv hf
  refine zEv_gd 7 (c := zIn a1 8) (f1 := (15, [some (.ref 73), some (.int a0), some (.int a1), some (.int (I 76 (Int32.toNatClampNeg a0)))], [.int (I 76 (Int32.toNatClampNeg a1)), .int a0, .ref 73])) (h1 := zHp I) (fun n => rfl) hc ?_
  obtain ⟨I545, hx, hf⟩ := Option.bind_eq_some_iff.mp hf
  refine zEv_call 1 (N := 142) (vs := [.ref 73, .int a0, .int (I 76 (Int32.toNatClampNeg a1))]) (v1 := none) (h1 := zHp I545) (L := [some (.ref 73), some (.int a0), some (.int a1), some (.int (I 76 (Int32.toNatClampNeg a0)))]) (rest := []) (pc := 18) (fun n => rfl) (s_Mo_comeTo hx d (by omega)) rfl rfl ?_
  show zEv _ _ _ (18, [some (.ref 73), some (.int a0), some (.int a1), some (.int (I 76 (Int32.toNatClampNeg a0)))], []) _ _ _
  obtain ⟨I546, hx, hf⟩ := Option.bind_eq_some_iff.mp hf
  refine zEv_call 4 (N := 142) (vs := [.ref 73, .int a1, .int (I 76 (Int32.toNatClampNeg a0))]) (v1 := none) (h1 := zHp I546) (L := [some (.ref 73), some (.int a0), some (.int a1), some (.int (I 76 (Int32.toNatClampNeg a0)))]) (rest := []) (pc := 24) (fun n => rfl) (s_Mo_comeTo hx d (by omega)) rfl rfl ?_
  show zEv _ _ _ (24, [some (.ref 73), some (.int a0), some (.int a1), some (.int (I 76 (Int32.toNatClampNeg a0)))], []) _ _ _
  cases hf
  exact zEv_ret 1 (fun n => rfl)
def Mo_evening_L2 : Nat → Int32 → zI → Option (zI)
  | 0, _, _ => none
  | n + 1, v1, I =>
    if 10 ≤ v1 then
      some I
    else
      if zIn v1 10 then
        (
          if (I 77 (Int32.toNatClampNeg v1)) < 0 then
            some I
          else
            if zIn v1 10 then
              if zIn v1 10 then
                some (zUp I 78 (Int32.toNatClampNeg v1) ((I 78 (Int32.toNatClampNeg v1)) - 1))
              else none
            else none : Option (zI)).bind fun I549 =>
        if zIn v1 10 then
          (
            if (I549 78 (Int32.toNatClampNeg v1)) = 0 then
              if zIn v1 10 then
                if zIn v1 10 then
                  some (zUp (zUp I549 77 (Int32.toNatClampNeg v1) (-6)) 78 (Int32.toNatClampNeg v1) (-6))
                else none
              else none
            else
              some I549 : Option (zI)).bind fun I551 =>
          Mo_evening_L2 n (v1 + 1) I551
        else none
      else none
theorem s_Mo_evening_L2 (d : Nat) (hd : 0 ≤ d) : ∀ (n : Nat) {v1 : Int32} {I : zI}  {I' : zI} {v : Option Value} {h' : zH}, Mo_evening_L2 n v1 I = some I' → zEv none d 145 (58, [some (.ref 73), none], []) (zHp I') v h' → zEv none d 145 (2, [some (.ref 73), some (.int v1)], []) (zHp I) v h' := by
  intro n
  induction n with
  | zero => intros; rename_i hf _; cases hf
  | succ n ih =>
    intro v1 I I' v h' hf kk
    rw [Mo_evening_L2] at hf
    refine zEv_if 3 (c := 10 ≤ v1) (f1 := (58, [some (.ref 73), some (.int v1)], [])) (f2 := (8, [some (.ref 73), some (.int v1)], [])) (h1 := zHp I) (fun n => rfl) (fun hc => ?_) (fun hc => ?_)
    · rw [if_pos hc] at hf
      obtain rfl := Option.some.inj hf
      exact zEv_weak (L := [some (.ref 73), none]) (by exact ⟨rfl, ⟨rfl, trivial⟩⟩) kk
    · rw [if_neg hc] at hf
      obtain ⟨hc, hf⟩ := zGd_inv hf
      refine zEv_gd 4 (c := zIn v1 10) (f1 := (14, [some (.ref 73), some (.int v1)], [.int (I 77 (Int32.toNatClampNeg v1))])) (h1 := zHp I) (fun n => rfl) hc ?_
      obtain ⟨I549, hm_m548, hf⟩ := Option.bind_eq_some_iff.mp hf
      have hJ_m548 : zEv none (d) 145 (27, [some (.ref 73), some (.int v1)], []) (zHp I549) v h' := by
        obtain ⟨hc, hf⟩ := zGd_inv hf
        refine zEv_gd 4 (c := zIn v1 10) (f1 := (33, [some (.ref 73), some (.int v1)], [.int (I549 78 (Int32.toNatClampNeg v1))])) (h1 := zHp I549) (fun n => rfl) hc ?_
        obtain ⟨I551, hm_m550, hf⟩ := Option.bind_eq_some_iff.mp hf
        have hJ_m550 : zEv none (d) 145 (52, [some (.ref 73), some (.int v1)], []) (zHp I551) v h' := by
          refine zEv_go 2 (f1 := (2, [some (.ref 73), some (.int (v1 + 1))], [])) (h1 := zHp I551) (fun n => rfl) ?_
          refine zEv_weak (L := [some (.ref 73), some (.int (v1 + 1))]) (by exact ⟨rfl, ⟨rfl, trivial⟩⟩) ?_
          exact ih hf kk
        clear hf
        refine zEv_if 1 (c := (I549 78 (Int32.toNatClampNeg v1)) = 0) (f1 := (36, [some (.ref 73), some (.int v1)], [])) (f2 := (52, [some (.ref 73), some (.int v1)], [])) (h1 := zHp I549) (fun n => rfl) (fun hc => ?_) (fun hc => ?_)
        · rw [if_pos hc] at hm_m550
          obtain ⟨hc, hm_m550⟩ := zGd_inv hm_m550
          refine zEv_gd 5 (c := zIn v1 10) (f1 := (44, [some (.ref 73), some (.int v1)], [])) (h1 := zHp (zUp I549 77 (Int32.toNatClampNeg v1) (-6))) (fun n => rfl) hc ?_
          obtain ⟨hc, hm_m550⟩ := zGd_inv hm_m550
          refine zEv_gd 5 (c := zIn v1 10) (f1 := (52, [some (.ref 73), some (.int v1)], [])) (h1 := zHp (zUp (zUp I549 77 (Int32.toNatClampNeg v1) (-6)) 78 (Int32.toNatClampNeg v1) (-6))) (fun n => rfl) hc ?_
          obtain rfl := Option.some.inj hm_m550
          exact zEv_weak (L := [some (.ref 73), some (.int v1)]) (by exact ⟨rfl, ⟨rfl, trivial⟩⟩) hJ_m550
        · rw [if_neg hc] at hm_m550
          obtain rfl := Option.some.inj hm_m550
          exact zEv_weak (L := [some (.ref 73), some (.int v1)]) (by exact ⟨rfl, ⟨rfl, trivial⟩⟩) hJ_m550
      clear hf
      refine zEv_if 1 (c := (I 77 (Int32.toNatClampNeg v1)) < 0) (f1 := (27, [some (.ref 73), some (.int v1)], [])) (f2 := (17, [some (.ref 73), some (.int v1)], [])) (h1 := zHp I) (fun n => rfl) (fun hc => ?_) (fun hc => ?_)
      · rw [if_pos hc] at hm_m548
        obtain rfl := Option.some.inj hm_m548
        exact zEv_weak (L := [some (.ref 73), some (.int v1)]) (by exact ⟨rfl, ⟨rfl, trivial⟩⟩) hJ_m548
      · rw [if_neg hc] at hm_m548
        obtain ⟨hc, hm_m548⟩ := zGd_inv hm_m548
        refine zEv_gd 5 (c := zIn v1 10) (f1 := (24, [some (.ref 73), some (.int v1)], [.int (I 78 (Int32.toNatClampNeg v1)), .int v1, .ref 78])) (h1 := zHp I) (fun n => rfl) hc ?_
        obtain ⟨hc, hm_m548⟩ := zGd_inv hm_m548
        refine zEv_gd 3 (c := zIn v1 10) (f1 := (27, [some (.ref 73), some (.int v1)], [])) (h1 := zHp (zUp I 78 (Int32.toNatClampNeg v1) ((I 78 (Int32.toNatClampNeg v1)) - 1))) (fun n => rfl) hc ?_
        obtain rfl := Option.some.inj hm_m548
        exact zEv_weak (L := [some (.ref 73), some (.int v1)]) (by exact ⟨rfl, ⟨rfl, trivial⟩⟩) hJ_m548
def Mo_evening (n : Nat) (I : zI) : Option (zI) :=
  (Mo_evening_L2 n 0 I).bind fun I552 =>
  some (zUp I552 73 6 ((I552 73 6) + 1))
theorem s_Mo_evening {n : Nat} {I : zI} {I' : zI} (hf : Mo_evening n I = some I') (d : Nat) (hd : 0 ≤ d) : zCall d 145 [.ref 73] (zHp I) (none) (zHp I') := by
  rw [Mo_evening] at hf
  show zEv _ _ _ (0, [some (.ref 73), none], []) _ _ _
  obtain ⟨I552, hx, hf⟩ := Option.bind_eq_some_iff.mp hf
  refine zEv_go 2 (f1 := (2, [some (.ref 73), some (.int 0)], [])) (h1 := zHp I) (fun n => rfl) ?_
  refine zEv_weak (L := [some (.ref 73), some (.int 0)]) (by exact ⟨rfl, ⟨rfl, trivial⟩⟩) (s_Mo_evening_L2 (d) (by omega) n hx ?_)
  cases hf
  exact zEv_ret 7 (fun n => rfl)
def Mo_happen (n : Nat) (a0 : Int32) (a1 : Int32) (a2 : Int32) (I : zI) : Option (zI) :=
  if a0 = 0 then
    if zIn a1 8 then
      some (zUp I 75 (Int32.toNatClampNeg a1) a2)
    else none
  else if a0 = 1 then
    (Mo_sit a1 I).bind fun I544 =>
    some I544
  else if a0 = 2 then
    (Mo_change a1 a2 I).bind fun I547 =>
    some I547
  else if a0 = 3 then
    if zIn a1 8 then
      some (zUp I 76 (Int32.toNatClampNeg a1) (-6))
    else none
  else if a0 = 4 then
    some (zUp I 73 5 ((I 73 5) ^^^ (zShl 1 a2)))
  else
    (Mo_evening n I).bind fun I553 =>
    some I553
theorem s_Mo_happen {n : Nat} {a0 : Int32} {a1 : Int32} {a2 : Int32} {I : zI} {I' : zI} (hf : Mo_happen n a0 a1 a2 I = some I') (d : Nat) (hd : 2 ≤ d) : zCall d 146 [.ref 73, .int a0, .int a1, .int a2] (zHp I) (none) (zHp I') := by
  obtain ⟨d, rfl⟩ : ∃ e, d = e + 1 := ⟨d - 1, by omega⟩
  rw [Mo_happen] at hf
  show zEv _ _ _ (0, [some (.ref 73), some (.int a0), some (.int a1), some (.int a2)], []) _ _ _
  refine zEv_go 1 (f1 := (1, [some (.ref 73), some (.int a0), some (.int a1), some (.int a2)], [.int a0])) (h1 := zHp I) (fun n => rfl) ?_
  by_cases hc0 : a0 = 0
  · rw [if_pos hc0] at hf
    refine zEv_tsk (off := 35) (t := 36) 0 (by rfl) hc0 (by decide) rfl rfl ?_
    obtain ⟨hc, hf⟩ := zGd_inv hf
    refine zEv_gd 5 (c := zIn a1 8) (f1 := (43, [some (.ref 73), some (.int a0), some (.int a1), some (.int a2)], [])) (h1 := zHp (zUp I 75 (Int32.toNatClampNeg a1) a2)) (fun n => rfl) hc ?_
    cases hf
    exact zEv_ret 2 (fun n => rfl)
  rw [if_neg hc0] at hf
  by_cases hc1 : a0 = 1
  · rw [if_pos hc1] at hf
    refine zEv_tsk (off := 45) (t := 46) 1 (by rfl) hc1 (by decide) rfl rfl ?_
    obtain ⟨I544, hx, hf⟩ := Option.bind_eq_some_iff.mp hf
    refine zEv_call 3 (N := 143) (vs := [.ref 73, .int a1]) (v1 := none) (h1 := zHp I544) (L := [some (.ref 73), some (.int a0), some (.int a1), some (.int a2)]) (rest := []) (pc := 51) (fun n => rfl) (s_Mo_sit hx d (by omega)) rfl rfl ?_
    show zEv _ _ _ (51, [some (.ref 73), some (.int a0), some (.int a1), some (.int a2)], []) _ _ _
    cases hf
    exact zEv_ret 2 (fun n => rfl)
  rw [if_neg hc1] at hf
  by_cases hc2 : a0 = 2
  · rw [if_pos hc2] at hf
    refine zEv_tsk (off := 53) (t := 54) 2 (by rfl) hc2 (by decide) rfl rfl ?_
    obtain ⟨I547, hx, hf⟩ := Option.bind_eq_some_iff.mp hf
    refine zEv_call 4 (N := 144) (vs := [.ref 73, .int a1, .int a2]) (v1 := none) (h1 := zHp I547) (L := [some (.ref 73), some (.int a0), some (.int a1), some (.int a2)]) (rest := []) (pc := 60) (fun n => rfl) (s_Mo_change hx d (by omega)) rfl rfl ?_
    show zEv _ _ _ (60, [some (.ref 73), some (.int a0), some (.int a1), some (.int a2)], []) _ _ _
    cases hf
    exact zEv_ret 2 (fun n => rfl)
  rw [if_neg hc2] at hf
  by_cases hc3 : a0 = 3
  · rw [if_pos hc3] at hf
    refine zEv_tsk (off := 62) (t := 63) 3 (by rfl) hc3 (by decide) rfl rfl ?_
    obtain ⟨hc, hf⟩ := zGd_inv hf
    refine zEv_gd 5 (c := zIn a1 8) (f1 := (71, [some (.ref 73), some (.int a0), some (.int a1), some (.int a2)], [])) (h1 := zHp (zUp I 76 (Int32.toNatClampNeg a1) (-6))) (fun n => rfl) hc ?_
    cases hf
    exact zEv_ret 2 (fun n => rfl)
  rw [if_neg hc3] at hf
  by_cases hc4 : a0 = 4
  · rw [if_pos hc4] at hf
    refine zEv_tsk (off := 73) (t := 74) 4 (by rfl) hc4 (by decide) rfl rfl ?_
    cases hf
    exact zEv_ret 10 (fun n => rfl)
  rw [if_neg hc4] at hf
  have hn0 := zNt (k := 0) hc0 (by decide)
  have hn1 := zNt (k := 1) hc1 (by decide)
  have hn2 := zNt (k := 2) hc2 (by decide)
  have hn3 := zNt (k := 3) hc3 (by decide)
  have hn4 := zNt (k := 4) hc4 (by decide)
  refine zEv_tsd (t := 89) (by rfl) (by omega) rfl ?_
  obtain ⟨I553, hx, hf⟩ := Option.bind_eq_some_iff.mp hf
  refine zEv_call 2 (N := 145) (vs := [.ref 73]) (v1 := none) (h1 := zHp I553) (L := [some (.ref 73), some (.int a0), some (.int a1), some (.int a2)]) (rest := []) (pc := 93) (fun n => rfl) (s_Mo_evening hx d (by omega)) rfl rfl ?_
  show zEv _ _ _ (93, [some (.ref 73), some (.int a0), some (.int a1), some (.int a2)], []) _ _ _
  cases hf
  exact zEv_ret 1 (fun n => rfl)
def Mo_goDays_L40 : Nat → Int32 → zI → Option (zI)
  | 0, _, _ => none
  | n + 1, v1, I =>
    if (I 73 16) ≤ v1 then
      some I
    else
      if 0 ≤ (I 73 19) then
        some I
      else
        if zIn v1 60 then
          if zIn v1 60 then
            if zIn v1 60 then
              (Mo_whyNot (I 83 (Int32.toNatClampNeg v1)) (I 84 (Int32.toNatClampNeg v1)) (I 85 (Int32.toNatClampNeg v1)) I).bind fun x535 =>
              (
                if x535 ≤ 0 then
                  some (-6)
                else
                  some v1 : Option (Int32)).bind fun x537 =>
              (
                if x535 ≤ 0 then
                  some (-6)
                else
                  some x535 : Option (Int32)).bind fun x539 =>
              (
                if x535 = 0 then
                  if zIn v1 60 then
                    if zIn v1 60 then
                      if zIn v1 60 then
                        (Mo_happen n ((zUp (zUp I 73 19 x537) 73 20 x539) 83 (Int32.toNatClampNeg v1)) ((zUp (zUp I 73 19 x537) 73 20 x539) 84 (Int32.toNatClampNeg v1)) ((zUp (zUp I 73 19 x537) 73 20 x539) 85 (Int32.toNatClampNeg v1)) (zUp (zUp I 73 19 x537) 73 20 x539)).bind fun I554 =>
                        if zIn v1 60 then
                          (
                            if (I554 83 (Int32.toNatClampNeg v1)) = 1 then
                              some 1
                            else
                              some 0 : Option (Int32)).bind fun x556 =>
                          some (zUp I554 73 21 ((I554 73 21) + x556))
                        else none
                      else none
                    else none
                  else none
                else
                  some (zUp (zUp I 73 19 x537) 73 20 x539) : Option (zI)).bind fun I557 =>
              Mo_goDays_L40 n (v1 + 1) I557
            else none
          else none
        else none
theorem s_Mo_goDays_L40 (d : Nat) (hd : 3 ≤ d) : ∀ (n : Nat) {v1 : Int32} {I : zI}  {I' : zI} {v : Option Value} {h' : zH}, Mo_goDays_L40 n v1 I = some I' → zEv none d 149 (162, [some (.ref 73), none, none], []) (zHp I') v h' → zEv none d 149 (40, [some (.ref 73), some (.int v1), none], []) (zHp I) v h' := by
  obtain ⟨d, rfl⟩ : ∃ e, d = e + 1 := ⟨d - 1, by omega⟩
  intro n
  induction n with
  | zero => intros; rename_i hf _; cases hf
  | succ n ih =>
    intro v1 I I' v h' hf kk
    rw [Mo_goDays_L40] at hf
    refine zEv_if 4 (c := (I 73 16) ≤ v1) (f1 := (162, [some (.ref 73), some (.int v1), none], [])) (f2 := (48, [some (.ref 73), some (.int v1), none], [])) (h1 := zHp I) (fun n => rfl) (fun hc => ?_) (fun hc => ?_)
    · rw [if_pos hc] at hf
      obtain rfl := Option.some.inj hf
      exact zEv_weak (L := [some (.ref 73), none, none]) (by exact ⟨rfl, ⟨rfl, ⟨rfl, trivial⟩⟩⟩) kk
    · rw [if_neg hc] at hf
      refine zEv_if 3 (c := 0 ≤ (I 73 19)) (f1 := (162, [some (.ref 73), some (.int v1), none], [])) (f2 := (55, [some (.ref 73), some (.int v1), none], [])) (h1 := zHp I) (fun n => rfl) (fun hc => ?_) (fun hc => ?_)
      · rw [if_pos hc] at hf
        obtain rfl := Option.some.inj hf
        exact zEv_weak (L := [some (.ref 73), none, none]) (by exact ⟨rfl, ⟨rfl, ⟨rfl, trivial⟩⟩⟩) kk
      · rw [if_neg hc] at hf
        obtain ⟨hc, hf⟩ := zGd_inv hf
        refine zEv_gd 5 (c := zIn v1 60) (f1 := (62, [some (.ref 73), some (.int v1), none], [.int (I 83 (Int32.toNatClampNeg v1)), .ref 73])) (h1 := zHp I) (fun n => rfl) hc ?_
        obtain ⟨hc, hf⟩ := zGd_inv hf
        refine zEv_gd 4 (c := zIn v1 60) (f1 := (68, [some (.ref 73), some (.int v1), none], [.int (I 84 (Int32.toNatClampNeg v1)), .int (I 83 (Int32.toNatClampNeg v1)), .ref 73])) (h1 := zHp I) (fun n => rfl) hc ?_
        obtain ⟨hc, hf⟩ := zGd_inv hf
        refine zEv_gd 4 (c := zIn v1 60) (f1 := (74, [some (.ref 73), some (.int v1), none], [.int (I 85 (Int32.toNatClampNeg v1)), .int (I 84 (Int32.toNatClampNeg v1)), .int (I 83 (Int32.toNatClampNeg v1)), .ref 73])) (h1 := zHp I) (fun n => rfl) hc ?_
        obtain ⟨x535, hx, hf⟩ := Option.bind_eq_some_iff.mp hf
        refine zEv_call 1 (N := 141) (vs := [.ref 73, .int (I 83 (Int32.toNatClampNeg v1)), .int (I 84 (Int32.toNatClampNeg v1)), .int (I 85 (Int32.toNatClampNeg v1))]) (v1 := some (.int x535)) (h1 := zHp I) (L := [some (.ref 73), some (.int v1), none]) (rest := []) (pc := 77) (fun n => rfl) (s_Mo_whyNot hx d (by omega)) rfl rfl ?_
        show zEv _ _ _ (77, [some (.ref 73), some (.int v1), none], [.int x535]) _ _ _
        obtain ⟨x537, hm_m536, hf⟩ := Option.bind_eq_some_iff.mp hf
        have hJ_m536 : zEv none (d + 1) 149 (89, [some (.ref 73), some (.int v1), some (.int x535)], [.int x537, .ref 73]) (zHp I) v h' := by
          obtain ⟨x539, hm_m538, hf⟩ := Option.bind_eq_some_iff.mp hf
          have hJ_m538 : zEv none (d + 1) 149 (103, [some (.ref 73), some (.int v1), some (.int x535)], [.int x539, .ref 73]) (zHp (zUp I 73 19 x537)) v h' := by
            obtain ⟨I557, hm_m540, hf⟩ := Option.bind_eq_some_iff.mp hf
            have hJ_m540 : zEv none (d + 1) 149 (156, [some (.ref 73), some (.int v1), none], []) (zHp I557) v h' := by
              refine zEv_go 2 (f1 := (40, [some (.ref 73), some (.int (v1 + 1)), none], [])) (h1 := zHp I557) (fun n => rfl) ?_
              refine zEv_weak (L := [some (.ref 73), some (.int (v1 + 1)), none]) (by exact ⟨rfl, ⟨rfl, ⟨rfl, trivial⟩⟩⟩) ?_
              exact ih hf kk
            clear hf
            refine zEv_if 3 (c := x535 = 0) (f1 := (110, [some (.ref 73), some (.int v1), some (.int x535)], [])) (f2 := (156, [some (.ref 73), some (.int v1), some (.int x535)], [])) (h1 := zHp (zUp (zUp I 73 19 x537) 73 20 x539)) (fun n => rfl) (fun hc => ?_) (fun hc => ?_)
            · rw [if_pos hc] at hm_m540
              obtain ⟨hc, hm_m540⟩ := zGd_inv hm_m540
              refine zEv_gd 5 (c := zIn v1 60) (f1 := (117, [some (.ref 73), some (.int v1), some (.int x535)], [.int ((zUp (zUp I 73 19 x537) 73 20 x539) 83 (Int32.toNatClampNeg v1)), .ref 73])) (h1 := zHp (zUp (zUp I 73 19 x537) 73 20 x539)) (fun n => rfl) hc ?_
              obtain ⟨hc, hm_m540⟩ := zGd_inv hm_m540
              refine zEv_gd 4 (c := zIn v1 60) (f1 := (123, [some (.ref 73), some (.int v1), some (.int x535)], [.int ((zUp (zUp I 73 19 x537) 73 20 x539) 84 (Int32.toNatClampNeg v1)), .int ((zUp (zUp I 73 19 x537) 73 20 x539) 83 (Int32.toNatClampNeg v1)), .ref 73])) (h1 := zHp (zUp (zUp I 73 19 x537) 73 20 x539)) (fun n => rfl) hc ?_
              obtain ⟨hc, hm_m540⟩ := zGd_inv hm_m540
              refine zEv_gd 4 (c := zIn v1 60) (f1 := (129, [some (.ref 73), some (.int v1), some (.int x535)], [.int ((zUp (zUp I 73 19 x537) 73 20 x539) 85 (Int32.toNatClampNeg v1)), .int ((zUp (zUp I 73 19 x537) 73 20 x539) 84 (Int32.toNatClampNeg v1)), .int ((zUp (zUp I 73 19 x537) 73 20 x539) 83 (Int32.toNatClampNeg v1)), .ref 73])) (h1 := zHp (zUp (zUp I 73 19 x537) 73 20 x539)) (fun n => rfl) hc ?_
              obtain ⟨I554, hx, hm_m540⟩ := Option.bind_eq_some_iff.mp hm_m540
              refine zEv_call 1 (N := 146) (vs := [.ref 73, .int ((zUp (zUp I 73 19 x537) 73 20 x539) 83 (Int32.toNatClampNeg v1)), .int ((zUp (zUp I 73 19 x537) 73 20 x539) 84 (Int32.toNatClampNeg v1)), .int ((zUp (zUp I 73 19 x537) 73 20 x539) 85 (Int32.toNatClampNeg v1))]) (v1 := none) (h1 := zHp I554) (L := [some (.ref 73), some (.int v1), some (.int x535)]) (rest := []) (pc := 132) (fun n => rfl) (s_Mo_happen hx d (by omega)) rfl rfl ?_
              show zEv _ _ _ (132, [some (.ref 73), some (.int v1), some (.int x535)], []) _ _ _
              obtain ⟨hc, hm_m540⟩ := zGd_inv hm_m540
              refine zEv_gd 7 (c := zIn v1 60) (f1 := (143, [some (.ref 73), some (.int v1), some (.int x535)], [.int (I554 83 (Int32.toNatClampNeg v1)), .int (I554 73 21), .ref 73])) (h1 := zHp I554) (fun n => rfl) hc ?_
              obtain ⟨x556, hm_m555, hm_m540⟩ := Option.bind_eq_some_iff.mp hm_m540
              have hJ_m555 : zEv none (d + 1) 149 (152, [some (.ref 73), some (.int v1), none], [.int x556, .int (I554 73 21), .ref 73]) (zHp I554) v h' := by
                obtain rfl := Option.some.inj hm_m540
                refine zEv_go 2 (f1 := (156, [some (.ref 73), some (.int v1), none], [])) (h1 := zHp (zUp I554 73 21 ((I554 73 21) + x556))) (fun n => rfl) ?_
                exact zEv_weak (L := [some (.ref 73), some (.int v1), none]) (by exact ⟨rfl, ⟨rfl, ⟨rfl, trivial⟩⟩⟩) hJ_m540
              clear hm_m540
              refine zEv_if 2 (c := (I554 83 (Int32.toNatClampNeg v1)) = 1) (f1 := (147, [some (.ref 73), some (.int v1), some (.int x535)], [.int (I554 73 21), .ref 73])) (f2 := (151, [some (.ref 73), some (.int v1), some (.int x535)], [.int (I554 73 21), .ref 73])) (h1 := zHp I554) (fun n => rfl) (fun hc => ?_) (fun hc => ?_)
              · rw [if_pos hc] at hm_m555
                obtain rfl := Option.some.inj hm_m555
                refine zEv_go 2 (f1 := (152, [some (.ref 73), some (.int v1), some (.int x535)], [.int 1, .int (I554 73 21), .ref 73])) (h1 := zHp I554) (fun n => rfl) ?_
                exact zEv_weak (L := [some (.ref 73), some (.int v1), none]) (by exact ⟨rfl, ⟨rfl, ⟨rfl, trivial⟩⟩⟩) hJ_m555
              · rw [if_neg hc] at hm_m555
                obtain rfl := Option.some.inj hm_m555
                refine zEv_go 1 (f1 := (152, [some (.ref 73), some (.int v1), some (.int x535)], [.int 0, .int (I554 73 21), .ref 73])) (h1 := zHp I554) (fun n => rfl) ?_
                exact zEv_weak (L := [some (.ref 73), some (.int v1), none]) (by exact ⟨rfl, ⟨rfl, ⟨rfl, trivial⟩⟩⟩) hJ_m555
            · rw [if_neg hc] at hm_m540
              obtain rfl := Option.some.inj hm_m540
              exact zEv_weak (L := [some (.ref 73), some (.int v1), none]) (by exact ⟨rfl, ⟨rfl, ⟨rfl, trivial⟩⟩⟩) hJ_m540
          clear hf
          refine zEv_if 4 (c := x535 ≤ 0) (f1 := (101, [some (.ref 73), some (.int v1), some (.int x535)], [.ref 73])) (f2 := (97, [some (.ref 73), some (.int v1), some (.int x535)], [.ref 73])) (h1 := zHp (zUp I 73 19 x537)) (fun n => rfl) (fun hc => ?_) (fun hc => ?_)
          · rw [if_pos hc] at hm_m538
            obtain rfl := Option.some.inj hm_m538
            refine zEv_go 1 (f1 := (103, [some (.ref 73), some (.int v1), some (.int x535)], [.int (-6), .ref 73])) (h1 := zHp (zUp I 73 19 x537)) (fun n => rfl) ?_
            exact zEv_weak (L := [some (.ref 73), some (.int v1), some (.int x535)]) (by exact ⟨rfl, ⟨rfl, ⟨rfl, trivial⟩⟩⟩) hJ_m538
          · rw [if_neg hc] at hm_m538
            obtain rfl := Option.some.inj hm_m538
            refine zEv_go 2 (f1 := (103, [some (.ref 73), some (.int v1), some (.int x535)], [.int x535, .ref 73])) (h1 := zHp (zUp I 73 19 x537)) (fun n => rfl) ?_
            exact zEv_weak (L := [some (.ref 73), some (.int v1), some (.int x535)]) (by exact ⟨rfl, ⟨rfl, ⟨rfl, trivial⟩⟩⟩) hJ_m538
        clear hf
        refine zEv_if 4 (c := x535 ≤ 0) (f1 := (87, [some (.ref 73), some (.int v1), some (.int x535)], [.ref 73])) (f2 := (83, [some (.ref 73), some (.int v1), some (.int x535)], [.ref 73])) (h1 := zHp I) (fun n => rfl) (fun hc => ?_) (fun hc => ?_)
        · rw [if_pos hc] at hm_m536
          obtain rfl := Option.some.inj hm_m536
          refine zEv_go 1 (f1 := (89, [some (.ref 73), some (.int v1), some (.int x535)], [.int (-6), .ref 73])) (h1 := zHp I) (fun n => rfl) ?_
          exact zEv_weak (L := [some (.ref 73), some (.int v1), some (.int x535)]) (by exact ⟨rfl, ⟨rfl, ⟨rfl, trivial⟩⟩⟩) hJ_m536
        · rw [if_neg hc] at hm_m536
          obtain rfl := Option.some.inj hm_m536
          refine zEv_go 2 (f1 := (89, [some (.ref 73), some (.int v1), some (.int x535)], [.int v1, .ref 73])) (h1 := zHp I) (fun n => rfl) ?_
          exact zEv_weak (L := [some (.ref 73), some (.int v1), some (.int x535)]) (by exact ⟨rfl, ⟨rfl, ⟨rfl, trivial⟩⟩⟩) hJ_m536
def Mo_goDays_L19 : Nat → Int32 → zI → Option (zI)
  | 0, _, _ => none
  | n + 1, v1, I =>
    if 12 ≤ v1 then
      some I
    else
      if zIn v1 12 then
        Mo_goDays_L19 n (v1 + 1) (zUp I 86 (Int32.toNatClampNeg v1) 0)
      else none
theorem s_Mo_goDays_L19 (d : Nat) (hd : 3 ≤ d) : ∀ (n : Nat) {v1 : Int32} {I : zI}  {I' : zI} {v : Option Value} {h' : zH}, Mo_goDays_L19 n v1 I = some I' → zEv none d 149 (38, [some (.ref 73), none, none], []) (zHp I') v h' → zEv none d 149 (19, [some (.ref 73), some (.int v1), none], []) (zHp I) v h' := by
  obtain ⟨d, rfl⟩ : ∃ e, d = e + 1 := ⟨d - 1, by omega⟩
  intro n
  induction n with
  | zero => intros; rename_i hf _; cases hf
  | succ n ih =>
    intro v1 I I' v h' hf kk
    rw [Mo_goDays_L19] at hf
    refine zEv_if 3 (c := 12 ≤ v1) (f1 := (38, [some (.ref 73), some (.int v1), none], [])) (f2 := (25, [some (.ref 73), some (.int v1), none], [])) (h1 := zHp I) (fun n => rfl) (fun hc => ?_) (fun hc => ?_)
    · rw [if_pos hc] at hf
      obtain rfl := Option.some.inj hf
      exact zEv_weak (L := [some (.ref 73), none, none]) (by exact ⟨rfl, ⟨rfl, ⟨rfl, trivial⟩⟩⟩) kk
    · rw [if_neg hc] at hf
      obtain ⟨hc, hf⟩ := zGd_inv hf
      refine zEv_gd 5 (c := zIn v1 12) (f1 := (32, [some (.ref 73), some (.int v1), none], [])) (h1 := zHp (zUp I 86 (Int32.toNatClampNeg v1) 0)) (fun n => rfl) hc ?_
      refine zEv_go 2 (f1 := (19, [some (.ref 73), some (.int (v1 + 1)), none], [])) (h1 := zHp (zUp I 86 (Int32.toNatClampNeg v1) 0)) (fun n => rfl) ?_
      refine zEv_weak (L := [some (.ref 73), some (.int (v1 + 1)), none]) (by exact ⟨rfl, ⟨rfl, ⟨rfl, trivial⟩⟩⟩) ?_
      exact ih hf kk
def Mo_goDays (n : Nat) (I : zI) : Option (zI) :=
  (Mo_goDays_L19 n 0 (zUp (zUp (zUp I 73 19 (-6)) 73 20 (-6)) 73 21 0)).bind fun I530 =>
  (Mo_goDays_L40 n 0 I530).bind fun I558 =>
  some I558
theorem s_Mo_goDays {n : Nat} {I : zI} {I' : zI} (hf : Mo_goDays n I = some I') (d : Nat) (hd : 3 ≤ d) : zCall d 149 [.ref 73] (zHp I) (none) (zHp I') := by
  obtain ⟨d, rfl⟩ : ∃ e, d = e + 1 := ⟨d - 1, by omega⟩
  rw [Mo_goDays] at hf
  show zEv _ _ _ (0, [some (.ref 73), none, none], []) _ _ _
  obtain ⟨I530, hx, hf⟩ := Option.bind_eq_some_iff.mp hf
  refine zEv_go 11 (f1 := (19, [some (.ref 73), some (.int 0), none], [])) (h1 := zHp (zUp (zUp (zUp I 73 19 (-6)) 73 20 (-6)) 73 21 0)) (fun n => rfl) ?_
  refine zEv_weak (L := [some (.ref 73), some (.int 0), none]) (by exact ⟨rfl, ⟨rfl, ⟨rfl, trivial⟩⟩⟩) (s_Mo_goDays_L19 (d + 1) (by omega) n hx ?_)
  obtain ⟨I558, hx, hf⟩ := Option.bind_eq_some_iff.mp hf
  refine zEv_go 2 (f1 := (40, [some (.ref 73), some (.int 0), none], [])) (h1 := zHp I530) (fun n => rfl) ?_
  refine zEv_weak (L := [some (.ref 73), some (.int 0), none]) (by exact ⟨rfl, ⟨rfl, ⟨rfl, trivial⟩⟩⟩) (s_Mo_goDays_L40 (d + 1) (by omega) n hx ?_)
  cases hf
  exact zEv_ret 1 (fun n => rfl)
def Mo_refusal (n : Nat) (I : zI) : Option (Int32 × zI) :=
  (Mo_keepNow n I).bind fun I527 =>
  (Mo_fault n I527).bind fun (x528, I529) =>
  if x528 < 0 then
    (Mo_goDays n I529).bind fun I559 =>
    if (I559 73 19) < 0 then
      some ((-6), I559)
    else
      some ((-3), I559)
  else
    some ((-5), I529)
theorem s_Mo_refusal {n : Nat} {I : zI} {r : Int32} {I' : zI} (hf : Mo_refusal n I = some (r, I')) (d : Nat) (hd : 5 ≤ d) : zCall d 150 [.ref 73] (zHp I) (some (.int r)) (zHp I') := by
  obtain ⟨d, rfl⟩ : ∃ e, d = e + 1 := ⟨d - 1, by omega⟩
  rw [Mo_refusal] at hf
  show zEv _ _ _ (0, [some (.ref 73)], []) _ _ _
  obtain ⟨I527, hx, hf⟩ := Option.bind_eq_some_iff.mp hf
  refine zEv_call 2 (N := 147) (vs := [.ref 73]) (v1 := none) (h1 := zHp I527) (L := [some (.ref 73)]) (rest := []) (pc := 4) (fun n => rfl) (s_Mo_keepNow hx d (by omega)) rfl rfl ?_
  show zEv _ _ _ (4, [some (.ref 73)], []) _ _ _
  obtain ⟨⟨x528, I529⟩, hx, hf⟩ := Option.bind_eq_some_iff.mp hf
  dsimp only at hf
  refine zEv_call 2 (N := 138) (vs := [.ref 73]) (v1 := some (.int x528)) (h1 := zHp I529) (L := [some (.ref 73)]) (rest := []) (pc := 8) (fun n => rfl) (s_Mo_fault hx d (by omega)) rfl rfl ?_
  show zEv _ _ _ (8, [some (.ref 73)], [.int x528]) _ _ _
  refine zEv_if 1 (c := x528 < 0) (f1 := (14, [some (.ref 73)], [])) (f2 := (11, [some (.ref 73)], [])) (h1 := zHp I529) (fun n => rfl) (fun hc => ?_) (fun hc => ?_)
  · rw [if_pos hc] at hf
    obtain ⟨I559, hx, hf⟩ := Option.bind_eq_some_iff.mp hf
    refine zEv_call 2 (N := 149) (vs := [.ref 73]) (v1 := none) (h1 := zHp I559) (L := [some (.ref 73)]) (rest := []) (pc := 18) (fun n => rfl) (s_Mo_goDays hx d (by omega)) rfl rfl ?_
    show zEv _ _ _ (18, [some (.ref 73)], []) _ _ _
    refine zEv_if 3 (c := (I559 73 19) < 0) (f1 := (30, [some (.ref 73)], [])) (f2 := (25, [some (.ref 73)], [])) (h1 := zHp I559) (fun n => rfl) (fun hc => ?_) (fun hc => ?_)
    · rw [if_pos hc] at hf
      cases hf
      exact zEv_ret 2 (fun n => rfl)
    · rw [if_neg hc] at hf
      cases hf
      exact zEv_ret 3 (fun n => rfl)
  · rw [if_neg hc] at hf
    cases hf
    exact zEv_ret 2 (fun n => rfl)
def Mo_back_L43 : Nat → Int32 → Int32 → zI → Option (zI)
  | 0, _, _, _ => none
  | n + 1, v1, v2, I =>
    if 10 ≤ v2 then
      some I
    else
      if zIn (16 + v2) 38 then
        if zIn v2 10 then
          if zIn (26 + v2) 38 then
            if zIn v2 10 then
              Mo_back_L43 n v1 (v2 + 1) (zUp (zUp I 77 (Int32.toNatClampNeg v2) (I 87 (Int32.toNatClampNeg (16 + v2)))) 78 (Int32.toNatClampNeg v2) ((zUp I 77 (Int32.toNatClampNeg v2) (I 87 (Int32.toNatClampNeg (16 + v2)))) 87 (Int32.toNatClampNeg (26 + v2))))
            else none
          else none
        else none
      else none
theorem s_Mo_back_L43 (d : Nat) (hd : 0 ≤ d) : ∀ (n : Nat) {v1 : Int32} {v2 : Int32} {I : zI}  {I' : zI} {v : Option Value} {h' : zH}, Mo_back_L43 n v1 v2 I = some I' → zEv none d 148 (85, [some (.ref 73), some (.int v1), none], []) (zHp I') v h' → zEv none d 148 (43, [some (.ref 73), some (.int v1), some (.int v2)], []) (zHp I) v h' := by
  intro n
  induction n with
  | zero => intros; rename_i hf _; cases hf
  | succ n ih =>
    intro v1 v2 I I' v h' hf kk
    rw [Mo_back_L43] at hf
    refine zEv_if 3 (c := 10 ≤ v2) (f1 := (85, [some (.ref 73), some (.int v1), some (.int v2)], [])) (f2 := (49, [some (.ref 73), some (.int v1), some (.int v2)], [])) (h1 := zHp I) (fun n => rfl) (fun hc => ?_) (fun hc => ?_)
    · rw [if_pos hc] at hf
      obtain rfl := Option.some.inj hf
      exact zEv_weak (L := [some (.ref 73), some (.int v1), none]) (by exact ⟨rfl, ⟨rfl, ⟨rfl, trivial⟩⟩⟩) kk
    · rw [if_neg hc] at hf
      obtain ⟨hc, hf⟩ := zGd_inv hf
      refine zEv_gd 9 (c := zIn (16 + v2) 38) (f1 := (63, [some (.ref 73), some (.int v1), some (.int v2)], [.int (I 87 (Int32.toNatClampNeg (16 + v2))), .int v2, .ref 77])) (h1 := zHp I) (fun n => rfl) hc ?_
      obtain ⟨hc, hf⟩ := zGd_inv hf
      refine zEv_gd 1 (c := zIn v2 10) (f1 := (64, [some (.ref 73), some (.int v1), some (.int v2)], [])) (h1 := zHp (zUp I 77 (Int32.toNatClampNeg v2) (I 87 (Int32.toNatClampNeg (16 + v2))))) (fun n => rfl) hc ?_
      obtain ⟨hc, hf⟩ := zGd_inv hf
      refine zEv_gd 9 (c := zIn (26 + v2) 38) (f1 := (78, [some (.ref 73), some (.int v1), some (.int v2)], [.int ((zUp I 77 (Int32.toNatClampNeg v2) (I 87 (Int32.toNatClampNeg (16 + v2)))) 87 (Int32.toNatClampNeg (26 + v2))), .int v2, .ref 78])) (h1 := zHp (zUp I 77 (Int32.toNatClampNeg v2) (I 87 (Int32.toNatClampNeg (16 + v2))))) (fun n => rfl) hc ?_
      obtain ⟨hc, hf⟩ := zGd_inv hf
      refine zEv_gd 1 (c := zIn v2 10) (f1 := (79, [some (.ref 73), some (.int v1), some (.int v2)], [])) (h1 := zHp (zUp (zUp I 77 (Int32.toNatClampNeg v2) (I 87 (Int32.toNatClampNeg (16 + v2)))) 78 (Int32.toNatClampNeg v2) ((zUp I 77 (Int32.toNatClampNeg v2) (I 87 (Int32.toNatClampNeg (16 + v2)))) 87 (Int32.toNatClampNeg (26 + v2))))) (fun n => rfl) hc ?_
      refine zEv_go 2 (f1 := (43, [some (.ref 73), some (.int v1), some (.int (v2 + 1))], [])) (h1 := zHp (zUp (zUp I 77 (Int32.toNatClampNeg v2) (I 87 (Int32.toNatClampNeg (16 + v2)))) 78 (Int32.toNatClampNeg v2) ((zUp I 77 (Int32.toNatClampNeg v2) (I 87 (Int32.toNatClampNeg (16 + v2)))) 87 (Int32.toNatClampNeg (26 + v2))))) (fun n => rfl) ?_
      refine zEv_weak (L := [some (.ref 73), some (.int v1), some (.int (v2 + 1))]) (by exact ⟨rfl, ⟨rfl, ⟨rfl, trivial⟩⟩⟩) ?_
      exact ih hf kk
def Mo_back_L2 : Nat → Int32 → Int32 → zI → Option (zI)
  | 0, _, _, _ => none
  | n + 1, v1, v2, I =>
    if 8 ≤ v2 then
      some I
    else
      if zIn v2 38 then
        if zIn v2 8 then
          if zIn (8 + v2) 38 then
            if zIn v2 8 then
              Mo_back_L2 n v1 (v2 + 1) (zUp (zUp I 75 (Int32.toNatClampNeg v2) (I 87 (Int32.toNatClampNeg v2))) 76 (Int32.toNatClampNeg v2) ((zUp I 75 (Int32.toNatClampNeg v2) (I 87 (Int32.toNatClampNeg v2))) 87 (Int32.toNatClampNeg (8 + v2))))
            else none
          else none
        else none
      else none
theorem s_Mo_back_L2 (d : Nat) (hd : 0 ≤ d) : ∀ (n : Nat) {v1 : Int32} {v2 : Int32} {I : zI}  {I' : zI} {v : Option Value} {h' : zH}, Mo_back_L2 n v1 v2 I = some I' → zEv none d 148 (41, [some (.ref 73), some (.int v1), none], []) (zHp I') v h' → zEv none d 148 (2, [some (.ref 73), some (.int v1), some (.int v2)], []) (zHp I) v h' := by
  intro n
  induction n with
  | zero => intros; rename_i hf _; cases hf
  | succ n ih =>
    intro v1 v2 I I' v h' hf kk
    rw [Mo_back_L2] at hf
    refine zEv_if 3 (c := 8 ≤ v2) (f1 := (41, [some (.ref 73), some (.int v1), some (.int v2)], [])) (f2 := (8, [some (.ref 73), some (.int v1), some (.int v2)], [])) (h1 := zHp I) (fun n => rfl) (fun hc => ?_) (fun hc => ?_)
    · rw [if_pos hc] at hf
      obtain rfl := Option.some.inj hf
      exact zEv_weak (L := [some (.ref 73), some (.int v1), none]) (by exact ⟨rfl, ⟨rfl, ⟨rfl, trivial⟩⟩⟩) kk
    · rw [if_neg hc] at hf
      obtain ⟨hc, hf⟩ := zGd_inv hf
      refine zEv_gd 7 (c := zIn v2 38) (f1 := (19, [some (.ref 73), some (.int v1), some (.int v2)], [.int (I 87 (Int32.toNatClampNeg v2)), .int v2, .ref 75])) (h1 := zHp I) (fun n => rfl) hc ?_
      obtain ⟨hc, hf⟩ := zGd_inv hf
      refine zEv_gd 1 (c := zIn v2 8) (f1 := (20, [some (.ref 73), some (.int v1), some (.int v2)], [])) (h1 := zHp (zUp I 75 (Int32.toNatClampNeg v2) (I 87 (Int32.toNatClampNeg v2)))) (fun n => rfl) hc ?_
      obtain ⟨hc, hf⟩ := zGd_inv hf
      refine zEv_gd 9 (c := zIn (8 + v2) 38) (f1 := (34, [some (.ref 73), some (.int v1), some (.int v2)], [.int ((zUp I 75 (Int32.toNatClampNeg v2) (I 87 (Int32.toNatClampNeg v2))) 87 (Int32.toNatClampNeg (8 + v2))), .int v2, .ref 76])) (h1 := zHp (zUp I 75 (Int32.toNatClampNeg v2) (I 87 (Int32.toNatClampNeg v2)))) (fun n => rfl) hc ?_
      obtain ⟨hc, hf⟩ := zGd_inv hf
      refine zEv_gd 1 (c := zIn v2 8) (f1 := (35, [some (.ref 73), some (.int v1), some (.int v2)], [])) (h1 := zHp (zUp (zUp I 75 (Int32.toNatClampNeg v2) (I 87 (Int32.toNatClampNeg v2))) 76 (Int32.toNatClampNeg v2) ((zUp I 75 (Int32.toNatClampNeg v2) (I 87 (Int32.toNatClampNeg v2))) 87 (Int32.toNatClampNeg (8 + v2))))) (fun n => rfl) hc ?_
      refine zEv_go 2 (f1 := (2, [some (.ref 73), some (.int v1), some (.int (v2 + 1))], [])) (h1 := zHp (zUp (zUp I 75 (Int32.toNatClampNeg v2) (I 87 (Int32.toNatClampNeg v2))) 76 (Int32.toNatClampNeg v2) ((zUp I 75 (Int32.toNatClampNeg v2) (I 87 (Int32.toNatClampNeg v2))) 87 (Int32.toNatClampNeg (8 + v2))))) (fun n => rfl) ?_
      refine zEv_weak (L := [some (.ref 73), some (.int v1), some (.int (v2 + 1))]) (by exact ⟨rfl, ⟨rfl, ⟨rfl, trivial⟩⟩⟩) ?_
      exact ih hf kk
def Mo_back (n : Nat) (a0 : Int32) (I : zI) : Option (Int32 × zI) :=
  (Mo_back_L2 n a0 0 I).bind fun I562 =>
  (Mo_back_L43 n a0 0 I562).bind fun I563 =>
  some (a0, (zUp (zUp I563 73 5 (I563 87 36)) 73 6 ((zUp I563 73 5 (I563 87 36)) 87 37)))
theorem s_Mo_back {n : Nat} {a0 : Int32} {I : zI} {r : Int32} {I' : zI} (hf : Mo_back n a0 I = some (r, I')) (d : Nat) (hd : 0 ≤ d) : zCall d 148 [.ref 73, .int a0] (zHp I) (some (.int r)) (zHp I') := by
  rw [Mo_back] at hf
  show zEv _ _ _ (0, [some (.ref 73), some (.int a0), none], []) _ _ _
  obtain ⟨I562, hx, hf⟩ := Option.bind_eq_some_iff.mp hf
  refine zEv_go 2 (f1 := (2, [some (.ref 73), some (.int a0), some (.int 0)], [])) (h1 := zHp I) (fun n => rfl) ?_
  refine zEv_weak (L := [some (.ref 73), some (.int a0), some (.int 0)]) (by exact ⟨rfl, ⟨rfl, ⟨rfl, trivial⟩⟩⟩) (s_Mo_back_L2 (d) (by omega) n hx ?_)
  obtain ⟨I563, hx, hf⟩ := Option.bind_eq_some_iff.mp hf
  refine zEv_go 2 (f1 := (43, [some (.ref 73), some (.int a0), some (.int 0)], [])) (h1 := zHp I562) (fun n => rfl) ?_
  refine zEv_weak (L := [some (.ref 73), some (.int a0), some (.int 0)]) (by exact ⟨rfl, ⟨rfl, ⟨rfl, trivial⟩⟩⟩) (s_Mo_back_L43 (d) (by omega) n hx ?_)
  cases hf
  exact zEv_ret 14 (fun n => rfl)
def Mo_judge (n : Nat) (a0 : Int32) (I : zI) : Option (Int32 × zI) :=
  (Mo_in (Int32.toInt64 a0) 0 2 I).bind fun x524 =>
  if x524 = 0 then
    some ((-2), I)
  else
    (Mo_refusal n I).bind fun (x560, I561) =>
    (Mo_back n x560 I561).bind fun (x564, I565) =>
    if x564 = (-5) then
      some (x564, I565)
    else
      if a0 ≤ 1 then
        if a0 = 0 then
          some ((I565 73 19), I565)
        else
          if a0 = 1 then
            some ((I565 73 20), I565)
          else
            some ((I565 73 21), I565)
      else
        if x564 = (-3) then
          some (x564, I565)
        else
          if a0 = 0 then
            some ((I565 73 19), I565)
          else
            if a0 = 1 then
              some ((I565 73 20), I565)
            else
              some ((I565 73 21), I565)
theorem s_Mo_judge {n : Nat} {a0 : Int32} {I : zI} {r : Int32} {I' : zI} (hf : Mo_judge n a0 I = some (r, I')) (d : Nat) (hd : 6 ≤ d) : zCall d 151 [.ref 73, .int a0] (zHp I) (some (.int r)) (zHp I') := by
  obtain ⟨d, rfl⟩ : ∃ e, d = e + 1 := ⟨d - 1, by omega⟩
  rw [Mo_judge] at hf
  show zEv _ _ _ (0, [some (.ref 73), some (.int a0), none], []) _ _ _
  obtain ⟨x524, hx, hf⟩ := Option.bind_eq_some_iff.mp hf
  refine zEv_call 5 (N := 117) (vs := [.long (Int32.toInt64 a0), .long 0, .long 2]) (v1 := some (.int x524)) (h1 := zHp I) (L := [some (.ref 73), some (.int a0), none]) (rest := []) (pc := 9) (fun n => rfl) (s_Mo_in hx d (by omega)) rfl rfl ?_
  show zEv _ _ _ (9, [some (.ref 73), some (.int a0), none], [.int x524]) _ _ _
  refine zEv_if 1 (c := x524 = 0) (f1 := (12, [some (.ref 73), some (.int a0), none], [])) (f2 := (15, [some (.ref 73), some (.int a0), none], [])) (h1 := zHp I) (fun n => rfl) (fun hc => ?_) (fun hc => ?_)
  · rw [if_pos hc] at hf
    cases hf
    exact zEv_ret 2 (fun n => rfl)
  · rw [if_neg hc] at hf
    obtain ⟨⟨x560, I561⟩, hx, hf⟩ := Option.bind_eq_some_iff.mp hf
    dsimp only at hf
    refine zEv_call 3 (N := 150) (vs := [.ref 73]) (v1 := some (.int x560)) (h1 := zHp I561) (L := [some (.ref 73), some (.int a0), none]) (rest := [.ref 73]) (pc := 20) (fun n => rfl) (s_Mo_refusal hx d (by omega)) rfl rfl ?_
    show zEv _ _ _ (20, [some (.ref 73), some (.int a0), none], [.int x560, .ref 73]) _ _ _
    obtain ⟨⟨x564, I565⟩, hx, hf⟩ := Option.bind_eq_some_iff.mp hf
    dsimp only at hf
    refine zEv_call 1 (N := 148) (vs := [.ref 73, .int x560]) (v1 := some (.int x564)) (h1 := zHp I565) (L := [some (.ref 73), some (.int a0), none]) (rest := []) (pc := 23) (fun n => rfl) (s_Mo_back hx d (by omega)) rfl rfl ?_
    show zEv _ _ _ (23, [some (.ref 73), some (.int a0), none], [.int x564]) _ _ _
    refine zEv_if 4 (c := x564 = (-5)) (f1 := (41, [some (.ref 73), some (.int a0), some (.int x564)], [])) (f2 := (30, [some (.ref 73), some (.int a0), some (.int x564)], [])) (h1 := zHp I565) (fun n => rfl) (fun hc => ?_) (fun hc => ?_)
    · rw [if_pos hc] at hf
      cases hf
      exact zEv_ret 2 (fun n => rfl)
    · rw [if_neg hc] at hf
      refine zEv_if 3 (c := a0 ≤ 1) (f1 := (43, [some (.ref 73), some (.int a0), some (.int x564)], [])) (f2 := (35, [some (.ref 73), some (.int a0), some (.int x564)], [])) (h1 := zHp I565) (fun n => rfl) (fun hc => ?_) (fun hc => ?_)
      · rw [if_pos hc] at hf
        refine zEv_if 2 (c := a0 = 0) (f1 := (47, [some (.ref 73), some (.int a0), some (.int x564)], [])) (f2 := (54, [some (.ref 73), some (.int a0), some (.int x564)], [])) (h1 := zHp I565) (fun n => rfl) (fun hc => ?_) (fun hc => ?_)
        · rw [if_pos hc] at hf
          cases hf
          exact zEv_ret 4 (fun n => rfl)
        · rw [if_neg hc] at hf
          refine zEv_if 3 (c := a0 = 1) (f1 := (59, [some (.ref 73), some (.int a0), some (.int x564)], [])) (f2 := (66, [some (.ref 73), some (.int a0), some (.int x564)], [])) (h1 := zHp I565) (fun n => rfl) (fun hc => ?_) (fun hc => ?_)
          · rw [if_pos hc] at hf
            cases hf
            exact zEv_ret 4 (fun n => rfl)
          · rw [if_neg hc] at hf
            cases hf
            exact zEv_ret 3 (fun n => rfl)
      · rw [if_neg hc] at hf
        refine zEv_if 3 (c := x564 = (-3)) (f1 := (41, [some (.ref 73), some (.int a0), some (.int x564)], [])) (f2 := (43, [some (.ref 73), some (.int a0), some (.int x564)], [])) (h1 := zHp I565) (fun n => rfl) (fun hc => ?_) (fun hc => ?_)
        · rw [if_pos hc] at hf
          cases hf
          exact zEv_ret 2 (fun n => rfl)
        · rw [if_neg hc] at hf
          refine zEv_if 2 (c := a0 = 0) (f1 := (47, [some (.ref 73), some (.int a0), some (.int x564)], [])) (f2 := (54, [some (.ref 73), some (.int a0), some (.int x564)], [])) (h1 := zHp I565) (fun n => rfl) (fun hc => ?_) (fun hc => ?_)
          · rw [if_pos hc] at hf
            cases hf
            exact zEv_ret 4 (fun n => rfl)
          · rw [if_neg hc] at hf
            refine zEv_if 3 (c := a0 = 1) (f1 := (59, [some (.ref 73), some (.int a0), some (.int x564)], [])) (f2 := (66, [some (.ref 73), some (.int a0), some (.int x564)], [])) (h1 := zHp I565) (fun n => rfl) (fun hc => ?_) (fun hc => ?_)
            · rw [if_pos hc] at hf
              cases hf
              exact zEv_ret 4 (fun n => rfl)
            · rw [if_neg hc] at hf
              cases hf
              exact zEv_ret 3 (fun n => rfl)
