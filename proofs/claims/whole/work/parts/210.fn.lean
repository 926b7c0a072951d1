set_option maxRecDepth 100000
def Mo_behind (n : Nat) (a0 : Int32) (a1 : Int32) (I : zI) : Option (Int32 × zI) :=
  (Mo_isOne a0 I).bind fun x566 =>
  if x566 = 0 then
    some ((-1), I)
  else
    (Mo_in (Int32.toInt64 a1) 0 1 I).bind fun x567 =>
    if x567 = 0 then
      some ((-2), I)
    else
      (Mo_refusal n I).bind fun (x568, I569) =>
      (
        if x568 = (-6) then
          if a1 = 0 then
            if zIn a0 8 then
              some (I569 75 (Int32.toNatClampNeg a0))
            else none
          else
            if zIn a0 8 then
              some (I569 76 (Int32.toNatClampNeg a0))
            else none
        else
          some x568 : Option (Int32)).bind fun x571 =>
      (Mo_back n x571 I569).bind fun (x572, I573) =>
      some (x572, I573)
theorem s_Mo_behind {n : Nat} {a0 : Int32} {a1 : Int32} {I : zI} {r : Int32} {I' : zI} (hf : Mo_behind n a0 a1 I = some (r, I')) (d : Nat) (hd : 6 ≤ d) : zCall d 152 [.ref 73, .int a0, .int a1] (zHp I) (some (.int r)) (zHp I') := by
  obtain ⟨d, rfl⟩ : ∃ e, d = e + 1 := ⟨d - 1, by omega⟩
  rw [Mo_behind] at hf
  show zEv _ _ _ (0, [some (.ref 73), some (.int a0), some (.int a1), none], []) _ _ _
  obtain ⟨x566, hx, hf⟩ := Option.bind_eq_some_iff.mp hf
  refine zEv_call 2 (N := 119) (vs := [.int a0]) (v1 := some (.int x566)) (h1 := zHp I) (L := [some (.ref 73), some (.int a0), some (.int a1), none]) (rest := []) (pc := 4) (fun n => rfl) (s_Mo_isOne hx d (by omega)) rfl rfl ?_
  show zEv _ _ _ (4, [some (.ref 73), some (.int a0), some (.int a1), none], [.int x566]) _ _ _
  refine zEv_if 1 (c := x566 = 0) (f1 := (7, [some (.ref 73), some (.int a0), some (.int a1), none], [])) (f2 := (9, [some (.ref 73), some (.int a0), some (.int a1), none], [])) (h1 := zHp I) (fun n => rfl) (fun hc => ?_) (fun hc => ?_)
  · rw [if_pos hc] at hf
    cases hf
    exact zEv_ret 2 (fun n => rfl)
  · rw [if_neg hc] at hf
    obtain ⟨x567, hx, hf⟩ := Option.bind_eq_some_iff.mp hf
    refine zEv_call 5 (N := 117) (vs := [.long (Int32.toInt64 a1), .long 0, .long 1]) (v1 := some (.int x567)) (h1 := zHp I) (L := [some (.ref 73), some (.int a0), some (.int a1), none]) (rest := []) (pc := 16) (fun n => rfl) (s_Mo_in hx d (by omega)) rfl rfl ?_
    show zEv _ _ _ (16, [some (.ref 73), some (.int a0), some (.int a1), none], [.int x567]) _ _ _
    refine zEv_if 1 (c := x567 = 0) (f1 := (19, [some (.ref 73), some (.int a0), some (.int a1), none], [])) (f2 := (22, [some (.ref 73), some (.int a0), some (.int a1), none], [])) (h1 := zHp I) (fun n => rfl) (fun hc => ?_) (fun hc => ?_)
    · rw [if_pos hc] at hf
      cases hf
      exact zEv_ret 2 (fun n => rfl)
    · rw [if_neg hc] at hf
      obtain ⟨⟨x568, I569⟩, hx, hf⟩ := Option.bind_eq_some_iff.mp hf
      dsimp only at hf
      refine zEv_call 2 (N := 150) (vs := [.ref 73]) (v1 := some (.int x568)) (h1 := zHp I569) (L := [some (.ref 73), some (.int a0), some (.int a1), none]) (rest := []) (pc := 26) (fun n => rfl) (s_Mo_refusal hx d (by omega)) rfl rfl ?_
      show zEv _ _ _ (26, [some (.ref 73), some (.int a0), some (.int a1), none], [.int x568]) _ _ _
      obtain ⟨x571, hm_m570, hf⟩ := Option.bind_eq_some_iff.mp hf
      have hJ_m570 : zEv none (d + 1) 152 (57, [some (.ref 73), none, none, none], [.int x571, .ref 73]) (zHp I569) (some (.int r)) (zHp I') := by
        obtain ⟨⟨x572, I573⟩, hx, hf⟩ := Option.bind_eq_some_iff.mp hf
        dsimp only at hf
        refine zEv_call 1 (N := 148) (vs := [.ref 73, .int x571]) (v1 := some (.int x572)) (h1 := zHp I573) (L := [some (.ref 73), none, none, none]) (rest := []) (pc := 60) (fun n => rfl) (s_Mo_back hx d (by omega)) rfl rfl ?_
        show zEv _ _ _ (60, [some (.ref 73), none, none, none], [.int x572]) _ _ _
        cases hf
        exact zEv_ret 1 (fun n => rfl)
      clear hf
      refine zEv_if 5 (c := x568 = (-6)) (f1 := (38, [some (.ref 73), some (.int a0), some (.int a1), some (.int x568)], [.ref 73])) (f2 := (34, [some (.ref 73), some (.int a0), some (.int a1), some (.int x568)], [.ref 73])) (h1 := zHp I569) (fun n => rfl) (fun hc => ?_) (fun hc => ?_)
      · rw [if_pos hc] at hm_m570
        refine zEv_if 2 (c := a1 = 0) (f1 := (42, [some (.ref 73), some (.int a0), some (.int a1), some (.int x568)], [.ref 73])) (f2 := (51, [some (.ref 73), some (.int a0), some (.int a1), some (.int x568)], [.ref 73])) (h1 := zHp I569) (fun n => rfl) (fun hc => ?_) (fun hc => ?_)
        · rw [if_pos hc] at hm_m570
          obtain ⟨hc, hm_m570⟩ := zGd_inv hm_m570
          refine zEv_gd 4 (c := zIn a0 8) (f1 := (48, [some (.ref 73), some (.int a0), some (.int a1), some (.int x568)], [.int (I569 75 (Int32.toNatClampNeg a0)), .ref 73])) (h1 := zHp I569) (fun n => rfl) hc ?_
          obtain rfl := Option.some.inj hm_m570
          refine zEv_go 1 (f1 := (57, [some (.ref 73), some (.int a0), some (.int a1), some (.int x568)], [.int (I569 75 (Int32.toNatClampNeg a0)), .ref 73])) (h1 := zHp I569) (fun n => rfl) ?_
          exact zEv_weak (L := [some (.ref 73), none, none, none]) (by exact ⟨rfl, ⟨rfl, ⟨rfl, ⟨rfl, trivial⟩⟩⟩⟩) hJ_m570
        · rw [if_neg hc] at hm_m570
          obtain ⟨hc, hm_m570⟩ := zGd_inv hm_m570
          refine zEv_gd 4 (c := zIn a0 8) (f1 := (57, [some (.ref 73), some (.int a0), some (.int a1), some (.int x568)], [.int (I569 76 (Int32.toNatClampNeg a0)), .ref 73])) (h1 := zHp I569) (fun n => rfl) hc ?_
          obtain rfl := Option.some.inj hm_m570
          exact zEv_weak (L := [some (.ref 73), none, none, none]) (by exact ⟨rfl, ⟨rfl, ⟨rfl, ⟨rfl, trivial⟩⟩⟩⟩) hJ_m570
      · rw [if_neg hc] at hm_m570
        obtain rfl := Option.some.inj hm_m570
        refine zEv_go 2 (f1 := (57, [some (.ref 73), some (.int a0), some (.int a1), some (.int x568)], [.int x568, .ref 73])) (h1 := zHp I569) (fun n => rfl) ?_
        exact zEv_weak (L := [some (.ref 73), none, none, none]) (by exact ⟨rfl, ⟨rfl, ⟨rfl, ⟨rfl, trivial⟩⟩⟩⟩) hJ_m570
def Mo_lies (n : Nat) (a0 : Int32) (a1 : Int32) (I : zI) : Option (Int32 × zI) :=
  (Mo_isBench a0 I).bind fun x574 =>
  if x574 = 0 then
    some ((-1), I)
  else
    (Mo_in (Int32.toInt64 a1) 0 1 I).bind fun x575 =>
    if x575 = 0 then
      some ((-2), I)
    else
      (Mo_refusal n I).bind fun (x576, I577) =>
      (
        if x576 = (-6) then
          if a1 = 0 then
            if zIn a0 10 then
              some (I577 77 (Int32.toNatClampNeg a0))
            else none
          else
            if zIn a0 10 then
              some (I577 78 (Int32.toNatClampNeg a0))
            else none
        else
          some x576 : Option (Int32)).bind fun x579 =>
      (Mo_back n x579 I577).bind fun (x580, I581) =>
      some (x580, I581)
theorem s_Mo_lies {n : Nat} {a0 : Int32} {a1 : Int32} {I : zI} {r : Int32} {I' : zI} (hf : Mo_lies n a0 a1 I = some (r, I')) (d : Nat) (hd : 6 ≤ d) : zCall d 153 [.ref 73, .int a0, .int a1] (zHp I) (some (.int r)) (zHp I') := by
  obtain ⟨d, rfl⟩ : ∃ e, d = e + 1 := ⟨d - 1, by omega⟩
  rw [Mo_lies] at hf
  show zEv _ _ _ (0, [some (.ref 73), some (.int a0), some (.int a1), none], []) _ _ _
  obtain ⟨x574, hx, hf⟩ := Option.bind_eq_some_iff.mp hf
  refine zEv_call 2 (N := 118) (vs := [.int a0]) (v1 := some (.int x574)) (h1 := zHp I) (L := [some (.ref 73), some (.int a0), some (.int a1), none]) (rest := []) (pc := 4) (fun n => rfl) (s_Mo_isBench hx d (by omega)) rfl rfl ?_
  show zEv _ _ _ (4, [some (.ref 73), some (.int a0), some (.int a1), none], [.int x574]) _ _ _
  refine zEv_if 1 (c := x574 = 0) (f1 := (7, [some (.ref 73), some (.int a0), some (.int a1), none], [])) (f2 := (9, [some (.ref 73), some (.int a0), some (.int a1), none], [])) (h1 := zHp I) (fun n => rfl) (fun hc => ?_) (fun hc => ?_)
  · rw [if_pos hc] at hf
    cases hf
    exact zEv_ret 2 (fun n => rfl)
  · rw [if_neg hc] at hf
    obtain ⟨x575, hx, hf⟩ := Option.bind_eq_some_iff.mp hf
    refine zEv_call 5 (N := 117) (vs := [.long (Int32.toInt64 a1), .long 0, .long 1]) (v1 := some (.int x575)) (h1 := zHp I) (L := [some (.ref 73), some (.int a0), some (.int a1), none]) (rest := []) (pc := 16) (fun n => rfl) (s_Mo_in hx d (by omega)) rfl rfl ?_
    show zEv _ _ _ (16, [some (.ref 73), some (.int a0), some (.int a1), none], [.int x575]) _ _ _
    refine zEv_if 1 (c := x575 = 0) (f1 := (19, [some (.ref 73), some (.int a0), some (.int a1), none], [])) (f2 := (22, [some (.ref 73), some (.int a0), some (.int a1), none], [])) (h1 := zHp I) (fun n => rfl) (fun hc => ?_) (fun hc => ?_)
    · rw [if_pos hc] at hf
      cases hf
      exact zEv_ret 2 (fun n => rfl)
    · rw [if_neg hc] at hf
      obtain ⟨⟨x576, I577⟩, hx, hf⟩ := Option.bind_eq_some_iff.mp hf
      dsimp only at hf
      refine zEv_call 2 (N := 150) (vs := [.ref 73]) (v1 := some (.int x576)) (h1 := zHp I577) (L := [some (.ref 73), some (.int a0), some (.int a1), none]) (rest := []) (pc := 26) (fun n => rfl) (s_Mo_refusal hx d (by omega)) rfl rfl ?_
      show zEv _ _ _ (26, [some (.ref 73), some (.int a0), some (.int a1), none], [.int x576]) _ _ _
      obtain ⟨x579, hm_m578, hf⟩ := Option.bind_eq_some_iff.mp hf
      have hJ_m578 : zEv none (d + 1) 153 (57, [some (.ref 73), none, none, none], [.int x579, .ref 73]) (zHp I577) (some (.int r)) (zHp I') := by
        obtain ⟨⟨x580, I581⟩, hx, hf⟩ := Option.bind_eq_some_iff.mp hf
        dsimp only at hf
        refine zEv_call 1 (N := 148) (vs := [.ref 73, .int x579]) (v1 := some (.int x580)) (h1 := zHp I581) (L := [some (.ref 73), none, none, none]) (rest := []) (pc := 60) (fun n => rfl) (s_Mo_back hx d (by omega)) rfl rfl ?_
        show zEv _ _ _ (60, [some (.ref 73), none, none, none], [.int x580]) _ _ _
        cases hf
        exact zEv_ret 1 (fun n => rfl)
      clear hf
      refine zEv_if 5 (c := x576 = (-6)) (f1 := (38, [some (.ref 73), some (.int a0), some (.int a1), some (.int x576)], [.ref 73])) (f2 := (34, [some (.ref 73), some (.int a0), some (.int a1), some (.int x576)], [.ref 73])) (h1 := zHp I577) (fun n => rfl) (fun hc => ?_) (fun hc => ?_)
      · rw [if_pos hc] at hm_m578
        refine zEv_if 2 (c := a1 = 0) (f1 := (42, [some (.ref 73), some (.int a0), some (.int a1), some (.int x576)], [.ref 73])) (f2 := (51, [some (.ref 73), some (.int a0), some (.int a1), some (.int x576)], [.ref 73])) (h1 := zHp I577) (fun n => rfl) (fun hc => ?_) (fun hc => ?_)
        · rw [if_pos hc] at hm_m578
          obtain ⟨hc, hm_m578⟩ := zGd_inv hm_m578
          refine zEv_gd 4 (c := zIn a0 10) (f1 := (48, [some (.ref 73), some (.int a0), some (.int a1), some (.int x576)], [.int (I577 77 (Int32.toNatClampNeg a0)), .ref 73])) (h1 := zHp I577) (fun n => rfl) hc ?_
          obtain rfl := Option.some.inj hm_m578
          refine zEv_go 1 (f1 := (57, [some (.ref 73), some (.int a0), some (.int a1), some (.int x576)], [.int (I577 77 (Int32.toNatClampNeg a0)), .ref 73])) (h1 := zHp I577) (fun n => rfl) ?_
          exact zEv_weak (L := [some (.ref 73), none, none, none]) (by exact ⟨rfl, ⟨rfl, ⟨rfl, ⟨rfl, trivial⟩⟩⟩⟩) hJ_m578
        · rw [if_neg hc] at hm_m578
          obtain ⟨hc, hm_m578⟩ := zGd_inv hm_m578
          refine zEv_gd 4 (c := zIn a0 10) (f1 := (57, [some (.ref 73), some (.int a0), some (.int a1), some (.int x576)], [.int (I577 78 (Int32.toNatClampNeg a0)), .ref 73])) (h1 := zHp I577) (fun n => rfl) hc ?_
          obtain rfl := Option.some.inj hm_m578
          exact zEv_weak (L := [some (.ref 73), none, none, none]) (by exact ⟨rfl, ⟨rfl, ⟨rfl, ⟨rfl, trivial⟩⟩⟩⟩) hJ_m578
      · rw [if_neg hc] at hm_m578
        obtain rfl := Option.some.inj hm_m578
        refine zEv_go 2 (f1 := (57, [some (.ref 73), some (.int a0), some (.int a1), some (.int x576)], [.int x576, .ref 73])) (h1 := zHp I577) (fun n => rfl) ?_
        exact zEv_weak (L := [some (.ref 73), none, none, none]) (by exact ⟨rfl, ⟨rfl, ⟨rfl, ⟨rfl, trivial⟩⟩⟩⟩) hJ_m578
def Mo_hands (n : Nat) (a0 : Int32) (a1 : Int32) (I : zI) : Option (Int32 × zI) :=
  (Mo_isMemory a0 I).bind fun x582 =>
  if x582 = 0 then
    some ((-1), I)
  else
    (Mo_in (Int32.toInt64 a1) 0 1 I).bind fun x583 =>
    if x583 = 0 then
      some ((-2), I)
    else
      (Mo_refusal n I).bind fun (x584, I585) =>
      (Mo_whereIs n a0 I585).bind fun x586 =>
      (
        if x584 = (-6) then
          if a1 = 0 then
            if zIn a0 12 then
              some (I585 86 (Int32.toNatClampNeg a0))
            else none
          else
            if x586 < 10 then
              some x586
            else
              some (-6)
        else
          some x584 : Option (Int32)).bind fun x588 =>
      (Mo_back n x588 I585).bind fun (x589, I590) =>
      some (x589, I590)
theorem s_Mo_hands {n : Nat} {a0 : Int32} {a1 : Int32} {I : zI} {r : Int32} {I' : zI} (hf : Mo_hands n a0 a1 I = some (r, I')) (d : Nat) (hd : 6 ≤ d) : zCall d 154 [.ref 73, .int a0, .int a1] (zHp I) (some (.int r)) (zHp I') := by
  obtain ⟨d, rfl⟩ : ∃ e, d = e + 1 := ⟨d - 1, by omega⟩
  rw [Mo_hands] at hf
  show zEv _ _ _ (0, [some (.ref 73), some (.int a0), some (.int a1), none, none], []) _ _ _
  obtain ⟨x582, hx, hf⟩ := Option.bind_eq_some_iff.mp hf
  refine zEv_call 2 (N := 120) (vs := [.int a0]) (v1 := some (.int x582)) (h1 := zHp I) (L := [some (.ref 73), some (.int a0), some (.int a1), none, none]) (rest := []) (pc := 4) (fun n => rfl) (s_Mo_isMemory hx d (by omega)) rfl rfl ?_
  show zEv _ _ _ (4, [some (.ref 73), some (.int a0), some (.int a1), none, none], [.int x582]) _ _ _
  refine zEv_if 1 (c := x582 = 0) (f1 := (7, [some (.ref 73), some (.int a0), some (.int a1), none, none], [])) (f2 := (9, [some (.ref 73), some (.int a0), some (.int a1), none, none], [])) (h1 := zHp I) (fun n => rfl) (fun hc => ?_) (fun hc => ?_)
  · rw [if_pos hc] at hf
    cases hf
    exact zEv_ret 2 (fun n => rfl)
  · rw [if_neg hc] at hf
    obtain ⟨x583, hx, hf⟩ := Option.bind_eq_some_iff.mp hf
    refine zEv_call 5 (N := 117) (vs := [.long (Int32.toInt64 a1), .long 0, .long 1]) (v1 := some (.int x583)) (h1 := zHp I) (L := [some (.ref 73), some (.int a0), some (.int a1), none, none]) (rest := []) (pc := 16) (fun n => rfl) (s_Mo_in hx d (by omega)) rfl rfl ?_
    show zEv _ _ _ (16, [some (.ref 73), some (.int a0), some (.int a1), none, none], [.int x583]) _ _ _
    refine zEv_if 1 (c := x583 = 0) (f1 := (19, [some (.ref 73), some (.int a0), some (.int a1), none, none], [])) (f2 := (22, [some (.ref 73), some (.int a0), some (.int a1), none, none], [])) (h1 := zHp I) (fun n => rfl) (fun hc => ?_) (fun hc => ?_)
    · rw [if_pos hc] at hf
      cases hf
      exact zEv_ret 2 (fun n => rfl)
    · rw [if_neg hc] at hf
      obtain ⟨⟨x584, I585⟩, hx, hf⟩ := Option.bind_eq_some_iff.mp hf
      dsimp only at hf
      refine zEv_call 2 (N := 150) (vs := [.ref 73]) (v1 := some (.int x584)) (h1 := zHp I585) (L := [some (.ref 73), some (.int a0), some (.int a1), none, none]) (rest := []) (pc := 26) (fun n => rfl) (s_Mo_refusal hx d (by omega)) rfl rfl ?_
      show zEv _ _ _ (26, [some (.ref 73), some (.int a0), some (.int a1), none, none], [.int x584]) _ _ _
      obtain ⟨x586, hx, hf⟩ := Option.bind_eq_some_iff.mp hf
      refine zEv_call 4 (N := 126) (vs := [.ref 73, .int a0]) (v1 := some (.int x586)) (h1 := zHp I585) (L := [some (.ref 73), some (.int a0), some (.int a1), some (.int x584), none]) (rest := []) (pc := 32) (fun n => rfl) (s_Mo_whereIs hx d (by omega)) rfl rfl ?_
      show zEv _ _ _ (32, [some (.ref 73), some (.int a0), some (.int a1), some (.int x584), none], [.int x586]) _ _ _
      obtain ⟨x588, hm_m587, hf⟩ := Option.bind_eq_some_iff.mp hf
      have hJ_m587 : zEv none (d + 1) 154 (72, [some (.ref 73), none, none, none, none], [.int x588, .ref 73]) (zHp I585) (some (.int r)) (zHp I') := by
        obtain ⟨⟨x589, I590⟩, hx, hf⟩ := Option.bind_eq_some_iff.mp hf
        dsimp only at hf
        refine zEv_call 1 (N := 148) (vs := [.ref 73, .int x588]) (v1 := some (.int x589)) (h1 := zHp I590) (L := [some (.ref 73), none, none, none, none]) (rest := []) (pc := 75) (fun n => rfl) (s_Mo_back hx d (by omega)) rfl rfl ?_
        show zEv _ _ _ (75, [some (.ref 73), none, none, none, none], [.int x589]) _ _ _
        cases hf
        exact zEv_ret 1 (fun n => rfl)
      clear hf
      refine zEv_if 5 (c := x584 = (-6)) (f1 := (45, [some (.ref 73), some (.int a0), some (.int a1), some (.int x584), some (.int x586)], [.ref 73])) (f2 := (41, [some (.ref 73), some (.int a0), some (.int a1), some (.int x584), some (.int x586)], [.ref 73])) (h1 := zHp I585) (fun n => rfl) (fun hc => ?_) (fun hc => ?_)
      · rw [if_pos hc] at hm_m587
        refine zEv_if 2 (c := a1 = 0) (f1 := (49, [some (.ref 73), some (.int a0), some (.int a1), some (.int x584), some (.int x586)], [.ref 73])) (f2 := (58, [some (.ref 73), some (.int a0), some (.int a1), some (.int x584), some (.int x586)], [.ref 73])) (h1 := zHp I585) (fun n => rfl) (fun hc => ?_) (fun hc => ?_)
        · rw [if_pos hc] at hm_m587
          obtain ⟨hc, hm_m587⟩ := zGd_inv hm_m587
          refine zEv_gd 4 (c := zIn a0 12) (f1 := (55, [some (.ref 73), some (.int a0), some (.int a1), some (.int x584), some (.int x586)], [.int (I585 86 (Int32.toNatClampNeg a0)), .ref 73])) (h1 := zHp I585) (fun n => rfl) hc ?_
          obtain rfl := Option.some.inj hm_m587
          refine zEv_go 1 (f1 := (72, [some (.ref 73), some (.int a0), some (.int a1), some (.int x584), some (.int x586)], [.int (I585 86 (Int32.toNatClampNeg a0)), .ref 73])) (h1 := zHp I585) (fun n => rfl) ?_
          exact zEv_weak (L := [some (.ref 73), none, none, none, none]) (by exact ⟨rfl, ⟨rfl, ⟨rfl, ⟨rfl, ⟨rfl, trivial⟩⟩⟩⟩⟩) hJ_m587
        · rw [if_neg hc] at hm_m587
          refine zEv_if 3 (c := x586 < 10) (f1 := (70, [some (.ref 73), some (.int a0), some (.int a1), some (.int x584), some (.int x586)], [.ref 73])) (f2 := (65, [some (.ref 73), some (.int a0), some (.int a1), some (.int x584), some (.int x586)], [.ref 73])) (h1 := zHp I585) (fun n => rfl) (fun hc => ?_) (fun hc => ?_)
          · rw [if_pos hc] at hm_m587
            obtain rfl := Option.some.inj hm_m587
            refine zEv_go 1 (f1 := (72, [some (.ref 73), some (.int a0), some (.int a1), some (.int x584), some (.int x586)], [.int x586, .ref 73])) (h1 := zHp I585) (fun n => rfl) ?_
            exact zEv_weak (L := [some (.ref 73), none, none, none, none]) (by exact ⟨rfl, ⟨rfl, ⟨rfl, ⟨rfl, ⟨rfl, trivial⟩⟩⟩⟩⟩) hJ_m587
          · rw [if_neg hc] at hm_m587
            obtain rfl := Option.some.inj hm_m587
            refine zEv_go 2 (f1 := (72, [some (.ref 73), some (.int a0), some (.int a1), some (.int x584), some (.int x586)], [.int (-6), .ref 73])) (h1 := zHp I585) (fun n => rfl) ?_
            exact zEv_weak (L := [some (.ref 73), none, none, none, none]) (by exact ⟨rfl, ⟨rfl, ⟨rfl, ⟨rfl, ⟨rfl, trivial⟩⟩⟩⟩⟩) hJ_m587
      · rw [if_neg hc] at hm_m587
        obtain rfl := Option.some.inj hm_m587
        refine zEv_go 2 (f1 := (72, [some (.ref 73), some (.int a0), some (.int a1), some (.int x584), some (.int x586)], [.int x584, .ref 73])) (h1 := zHp I585) (fun n => rfl) ?_
        exact zEv_weak (L := [some (.ref 73), none, none, none, none]) (by exact ⟨rfl, ⟨rfl, ⟨rfl, ⟨rfl, ⟨rfl, trivial⟩⟩⟩⟩⟩) hJ_m587
def Mo_most_L23 : Nat → Int32 → Int32 → zI → Option (Int32)
  | 0, _, _, _ => none
  | n + 1, v2, v3, I =>
    if v3 < 0 then
      some v2
    else
      if zIn v3 12 then
        (
          if (I 86 (Int32.toNatClampNeg v3)) ≤ 0 then
            some v2
          else
            if v2 < 0 then
              some v3
            else
              if zIn v3 12 then
                if zIn v2 12 then
                  if (I 86 (Int32.toNatClampNeg v3)) < (I 86 (Int32.toNatClampNeg v2)) then
                    some v2
                  else
                    some v3
                else none
              else none : Option (Int32)).bind fun x596 =>
        Mo_most_L23 n x596 (v3 + (-1)) I
      else none
theorem s_Mo_most_L23 (d : Nat) (hd : 6 ≤ d) : ∀ (n : Nat) {v2 : Int32} {v3 : Int32} {I : zI} {y2 : Int32} {v : Option Value} {h' : zH}, Mo_most_L23 n v2 v3 I = some y2 → zEv none d 155 (67, [some (.ref 73), none, some (.int y2), none], []) (zHp I) v h' → zEv none d 155 (23, [some (.ref 73), none, some (.int v2), some (.int v3)], []) (zHp I) v h' := by
  obtain ⟨d, rfl⟩ : ∃ e, d = e + 1 := ⟨d - 1, by omega⟩
  intro n
  induction n with
  | zero => intros; rename_i hf _; cases hf
  | succ n ih =>
    intro v2 v3 I y2 v h' hf kk
    rw [Mo_most_L23] at hf
    refine zEv_if 2 (c := v3 < 0) (f1 := (67, [some (.ref 73), none, some (.int v2), some (.int v3)], [])) (f2 := (27, [some (.ref 73), none, some (.int v2), some (.int v3)], [])) (h1 := zHp I) (fun n => rfl) (fun hc => ?_) (fun hc => ?_)
    · rw [if_pos hc] at hf
      obtain rfl := Option.some.inj hf
      exact zEv_weak (L := [some (.ref 73), none, some (.int v2), none]) (by exact ⟨rfl, ⟨rfl, ⟨rfl, ⟨rfl, trivial⟩⟩⟩⟩) kk
    · rw [if_neg hc] at hf
      obtain ⟨hc, hf⟩ := zGd_inv hf
      refine zEv_gd 4 (c := zIn v3 12) (f1 := (33, [some (.ref 73), none, some (.int v2), some (.int v3)], [.int (I 86 (Int32.toNatClampNeg v3))])) (h1 := zHp I) (fun n => rfl) hc ?_
      obtain ⟨x596, hm_m595, hf⟩ := Option.bind_eq_some_iff.mp hf
      have hJ_m595 : zEv none (d + 1) 155 (60, [some (.ref 73), none, none, some (.int v3)], [.int x596]) (zHp I) v h' := by
        refine zEv_go 3 (f1 := (23, [some (.ref 73), none, some (.int x596), some (.int (v3 + (-1)))], [])) (h1 := zHp I) (fun n => rfl) ?_
        refine zEv_weak (L := [some (.ref 73), none, some (.int x596), some (.int (v3 + (-1)))]) (by exact ⟨rfl, ⟨rfl, ⟨rfl, ⟨rfl, trivial⟩⟩⟩⟩) ?_
        exact ih hf kk
      clear hf
      refine zEv_if 1 (c := (I 86 (Int32.toNatClampNeg v3)) ≤ 0) (f1 := (59, [some (.ref 73), none, some (.int v2), some (.int v3)], [])) (f2 := (36, [some (.ref 73), none, some (.int v2), some (.int v3)], [])) (h1 := zHp I) (fun n => rfl) (fun hc => ?_) (fun hc => ?_)
      · rw [if_pos hc] at hm_m595
        obtain rfl := Option.some.inj hm_m595
        refine zEv_go 1 (f1 := (60, [some (.ref 73), none, some (.int v2), some (.int v3)], [.int v2])) (h1 := zHp I) (fun n => rfl) ?_
        exact zEv_weak (L := [some (.ref 73), none, none, some (.int v3)]) (by exact ⟨rfl, ⟨rfl, ⟨rfl, ⟨rfl, trivial⟩⟩⟩⟩) hJ_m595
      · rw [if_neg hc] at hm_m595
        refine zEv_if 2 (c := v2 < 0) (f1 := (55, [some (.ref 73), none, some (.int v2), some (.int v3)], [])) (f2 := (40, [some (.ref 73), none, some (.int v2), some (.int v3)], [])) (h1 := zHp I) (fun n => rfl) (fun hc => ?_) (fun hc => ?_)
        · rw [if_pos hc] at hm_m595
          obtain rfl := Option.some.inj hm_m595
          refine zEv_go 2 (f1 := (60, [some (.ref 73), none, some (.int v2), some (.int v3)], [.int v3])) (h1 := zHp I) (fun n => rfl) ?_
          exact zEv_weak (L := [some (.ref 73), none, none, some (.int v3)]) (by exact ⟨rfl, ⟨rfl, ⟨rfl, ⟨rfl, trivial⟩⟩⟩⟩) hJ_m595
        · rw [if_neg hc] at hm_m595
          obtain ⟨hc, hm_m595⟩ := zGd_inv hm_m595
          refine zEv_gd 4 (c := zIn v3 12) (f1 := (46, [some (.ref 73), none, some (.int v2), some (.int v3)], [.int (I 86 (Int32.toNatClampNeg v3))])) (h1 := zHp I) (fun n => rfl) hc ?_
          obtain ⟨hc, hm_m595⟩ := zGd_inv hm_m595
          refine zEv_gd 4 (c := zIn v2 12) (f1 := (52, [some (.ref 73), none, some (.int v2), some (.int v3)], [.int (I 86 (Int32.toNatClampNeg v2)), .int (I 86 (Int32.toNatClampNeg v3))])) (h1 := zHp I) (fun n => rfl) hc ?_
          refine zEv_if 1 (c := (I 86 (Int32.toNatClampNeg v3)) < (I 86 (Int32.toNatClampNeg v2))) (f1 := (59, [some (.ref 73), none, some (.int v2), some (.int v3)], [])) (f2 := (55, [some (.ref 73), none, some (.int v2), some (.int v3)], [])) (h1 := zHp I) (fun n => rfl) (fun hc => ?_) (fun hc => ?_)
          · rw [if_pos hc] at hm_m595
            obtain rfl := Option.some.inj hm_m595
            refine zEv_go 1 (f1 := (60, [some (.ref 73), none, some (.int v2), some (.int v3)], [.int v2])) (h1 := zHp I) (fun n => rfl) ?_
            exact zEv_weak (L := [some (.ref 73), none, none, some (.int v3)]) (by exact ⟨rfl, ⟨rfl, ⟨rfl, ⟨rfl, trivial⟩⟩⟩⟩) hJ_m595
          · rw [if_neg hc] at hm_m595
            obtain rfl := Option.some.inj hm_m595
            refine zEv_go 2 (f1 := (60, [some (.ref 73), none, some (.int v2), some (.int v3)], [.int v3])) (h1 := zHp I) (fun n => rfl) ?_
            exact zEv_weak (L := [some (.ref 73), none, none, some (.int v3)]) (by exact ⟨rfl, ⟨rfl, ⟨rfl, ⟨rfl, trivial⟩⟩⟩⟩) hJ_m595
def Mo_most (n : Nat) (I : zI) : Option (Int32 × zI) :=
  (Mo_refusal n I).bind fun (x591, I592) =>
  (Mo_back n x591 I592).bind fun (x593, I594) =>
  if x593 = (-6) then
    (Mo_most_L23 n (-6) 11 I594).bind fun x597 =>
    some (x597, I594)
  else
    some (x593, I594)
theorem s_Mo_most {n : Nat} {I : zI} {r : Int32} {I' : zI} (hf : Mo_most n I = some (r, I')) (d : Nat) (hd : 6 ≤ d) : zCall d 155 [.ref 73] (zHp I) (some (.int r)) (zHp I') := by
  obtain ⟨d, rfl⟩ : ∃ e, d = e + 1 := ⟨d - 1, by omega⟩
  rw [Mo_most] at hf
  show zEv _ _ _ (0, [some (.ref 73), none, none, none], []) _ _ _
  obtain ⟨⟨x591, I592⟩, hx, hf⟩ := Option.bind_eq_some_iff.mp hf
  dsimp only at hf
  refine zEv_call 3 (N := 150) (vs := [.ref 73]) (v1 := some (.int x591)) (h1 := zHp I592) (L := [some (.ref 73), none, none, none]) (rest := [.ref 73]) (pc := 5) (fun n => rfl) (s_Mo_refusal hx d (by omega)) rfl rfl ?_
  show zEv _ _ _ (5, [some (.ref 73), none, none, none], [.int x591, .ref 73]) _ _ _
  obtain ⟨⟨x593, I594⟩, hx, hf⟩ := Option.bind_eq_some_iff.mp hf
  dsimp only at hf
  refine zEv_call 1 (N := 148) (vs := [.ref 73, .int x591]) (v1 := some (.int x593)) (h1 := zHp I594) (L := [some (.ref 73), none, none, none]) (rest := []) (pc := 8) (fun n => rfl) (s_Mo_back hx d (by omega)) rfl rfl ?_
  show zEv _ _ _ (8, [some (.ref 73), none, none, none], [.int x593]) _ _ _
  refine zEv_if 4 (c := x593 = (-6)) (f1 := (17, [some (.ref 73), some (.int x593), none, none], [])) (f2 := (15, [some (.ref 73), some (.int x593), none, none], [])) (h1 := zHp I594) (fun n => rfl) (fun hc => ?_) (fun hc => ?_)
  · rw [if_pos hc] at hf
    obtain ⟨x597, hx, hf⟩ := Option.bind_eq_some_iff.mp hf
    refine zEv_go 4 (f1 := (23, [some (.ref 73), some (.int x593), some (.int (-6)), some (.int 11)], [])) (h1 := zHp I594) (fun n => rfl) ?_
    refine zEv_weak (L := [some (.ref 73), none, some (.int (-6)), some (.int 11)]) (by exact ⟨rfl, ⟨rfl, ⟨rfl, ⟨rfl, trivial⟩⟩⟩⟩) (s_Mo_most_L23 (d + 1) (by omega) n hx ?_)
    cases hf
    exact zEv_ret 2 (fun n => rfl)
  · rw [if_neg hc] at hf
    cases hf
    exact zEv_ret 2 (fun n => rfl)
def Mo_done (n : Nat) (I : zI) : Option (Int32 × zI) :=
  (Mo_refusal n I).bind fun (x598, I599) =>
  if x598 = (-6) then
    some (((zUp I599 73 12 0) 73 16), (zUp I599 73 12 0))
  else
    (Mo_back n x598 I599).bind fun (x600, I601) =>
    some (x600, I601)
theorem s_Mo_done {n : Nat} {I : zI} {r : Int32} {I' : zI} (hf : Mo_done n I = some (r, I')) (d : Nat) (hd : 6 ≤ d) : zCall d 156 [.ref 73] (zHp I) (some (.int r)) (zHp I') := by
  obtain ⟨d, rfl⟩ : ∃ e, d = e + 1 := ⟨d - 1, by omega⟩
  rw [Mo_done] at hf
  show zEv _ _ _ (0, [some (.ref 73), none], []) _ _ _
  obtain ⟨⟨x598, I599⟩, hx, hf⟩ := Option.bind_eq_some_iff.mp hf
  dsimp only at hf
  refine zEv_call 2 (N := 150) (vs := [.ref 73]) (v1 := some (.int x598)) (h1 := zHp I599) (L := [some (.ref 73), none]) (rest := []) (pc := 4) (fun n => rfl) (s_Mo_refusal hx d (by omega)) rfl rfl ?_
  show zEv _ _ _ (4, [some (.ref 73), none], [.int x598]) _ _ _
  refine zEv_if 4 (c := x598 = (-6)) (f1 := (17, [some (.ref 73), some (.int x598)], [])) (f2 := (11, [some (.ref 73), some (.int x598)], [])) (h1 := zHp I599) (fun n => rfl) (fun hc => ?_) (fun hc => ?_)
  · rw [if_pos hc] at hf
    cases hf
    exact zEv_ret 6 (fun n => rfl)
  · rw [if_neg hc] at hf
    obtain ⟨⟨x600, I601⟩, hx, hf⟩ := Option.bind_eq_some_iff.mp hf
    dsimp only at hf
    refine zEv_call 3 (N := 148) (vs := [.ref 73, .int x598]) (v1 := some (.int x600)) (h1 := zHp I601) (L := [some (.ref 73), some (.int x598)]) (rest := []) (pc := 16) (fun n => rfl) (s_Mo_back hx d (by omega)) rfl rfl ?_
    show zEv _ _ _ (16, [some (.ref 73), some (.int x598)], [.int x600]) _ _ _
    cases hf
    exact zEv_ret 1 (fun n => rfl)
def Mo_far_L31 : Nat → Int32 → Int32 → Int32 → Int32 → Int32 → zI → Option (Int32)
  | 0, _, _, _, _, _, _ => none
  | n + 1, v2, v3, v4, v5, v6, I =>
    if 10 ≤ v6 then
      some v5
    else
      (Mo_isIn v3 v6 I).bind fun x605 =>
      (
        if x605 = 0 then
          some 0
        else
          if zIn v6 10 then
            some (I 74 (Int32.toNatClampNeg v6))
          else none : Option (Int32)).bind fun x607 =>
      Mo_far_L31 n v2 v3 v4 (v5 ||| x607) (v6 + 1) I
theorem s_Mo_far_L31 (d : Nat) (hd : 1 ≤ d) : ∀ (n : Nat) {v2 : Int32} {v3 : Int32} {v4 : Int32} {v5 : Int32} {v6 : Int32} {I : zI} {y5 : Int32} {v : Option Value} {h' : zH}, Mo_far_L31 n v2 v3 v4 v5 v6 I = some y5 → zEv none d 157 (69, [some (.ref 73), none, some (.int v2), none, some (.int v4), some (.int y5), none], []) (zHp I) v h' → zEv none d 157 (31, [some (.ref 73), none, some (.int v2), some (.int v3), some (.int v4), some (.int v5), some (.int v6)], []) (zHp I) v h' := by
  obtain ⟨d, rfl⟩ : ∃ e, d = e + 1 := ⟨d - 1, by omega⟩
  intro n
  induction n with
  | zero => intros; rename_i hf _; cases hf
  | succ n ih =>
    intro v2 v3 v4 v5 v6 I y5 v h' hf kk
    rw [Mo_far_L31] at hf
    refine zEv_if 3 (c := 10 ≤ v6) (f1 := (69, [some (.ref 73), none, some (.int v2), some (.int v3), some (.int v4), some (.int v5), some (.int v6)], [])) (f2 := (38, [some (.ref 73), none, some (.int v2), some (.int v3), some (.int v4), some (.int v5), some (.int v6)], [])) (h1 := zHp I) (fun n => rfl) (fun hc => ?_) (fun hc => ?_)
    · rw [if_pos hc] at hf
      obtain rfl := Option.some.inj hf
      exact zEv_weak (L := [some (.ref 73), none, some (.int v2), none, some (.int v4), some (.int v5), none]) (by exact ⟨rfl, ⟨rfl, ⟨rfl, ⟨rfl, ⟨rfl, ⟨rfl, ⟨rfl, trivial⟩⟩⟩⟩⟩⟩⟩) kk
    · rw [if_neg hc] at hf
      obtain ⟨x605, hx, hf⟩ := Option.bind_eq_some_iff.mp hf
      refine zEv_call 4 (N := 121) (vs := [.int v3, .int v6]) (v1 := some (.int x605)) (h1 := zHp I) (L := [some (.ref 73), none, some (.int v2), some (.int v3), some (.int v4), some (.int v5), some (.int v6)]) (rest := [.int v5]) (pc := 46) (fun n => rfl) (s_Mo_isIn hx d (by omega)) rfl rfl ?_
      show zEv _ _ _ (46, [some (.ref 73), none, some (.int v2), some (.int v3), some (.int v4), some (.int v5), some (.int v6)], [.int x605, .int v5]) _ _ _
      obtain ⟨x607, hm_m606, hf⟩ := Option.bind_eq_some_iff.mp hf
      have hJ_m606 : zEv none (d + 1) 157 (60, [some (.ref 73), none, some (.int v2), some (.int v3), some (.int v4), none, some (.int v6)], [.int x607, .int v5]) (zHp I) v h' := by
        refine zEv_go 4 (f1 := (31, [some (.ref 73), none, some (.int v2), some (.int v3), some (.int v4), some (.int (v5 ||| x607)), some (.int (v6 + 1))], [])) (h1 := zHp I) (fun n => rfl) ?_
        refine zEv_weak (L := [some (.ref 73), none, some (.int v2), some (.int v3), some (.int v4), some (.int (v5 ||| x607)), some (.int (v6 + 1))]) (by exact ⟨rfl, ⟨rfl, ⟨rfl, ⟨rfl, ⟨rfl, ⟨rfl, ⟨rfl, trivial⟩⟩⟩⟩⟩⟩⟩) ?_
        exact ih hf kk
      clear hf
      refine zEv_if 1 (c := x605 = 0) (f1 := (59, [some (.ref 73), none, some (.int v2), some (.int v3), some (.int v4), some (.int v5), some (.int v6)], [.int v5])) (f2 := (49, [some (.ref 73), none, some (.int v2), some (.int v3), some (.int v4), some (.int v5), some (.int v6)], [.int v5])) (h1 := zHp I) (fun n => rfl) (fun hc => ?_) (fun hc => ?_)
      · rw [if_pos hc] at hm_m606
        obtain rfl := Option.some.inj hm_m606
        refine zEv_go 1 (f1 := (60, [some (.ref 73), none, some (.int v2), some (.int v3), some (.int v4), some (.int v5), some (.int v6)], [.int 0, .int v5])) (h1 := zHp I) (fun n => rfl) ?_
        exact zEv_weak (L := [some (.ref 73), none, some (.int v2), some (.int v3), some (.int v4), none, some (.int v6)]) (by exact ⟨rfl, ⟨rfl, ⟨rfl, ⟨rfl, ⟨rfl, ⟨rfl, ⟨rfl, trivial⟩⟩⟩⟩⟩⟩⟩) hJ_m606
      · rw [if_neg hc] at hm_m606
        obtain ⟨hc, hm_m606⟩ := zGd_inv hm_m606
        refine zEv_gd 4 (c := zIn v6 10) (f1 := (56, [some (.ref 73), none, some (.int v2), some (.int v3), some (.int v4), some (.int v5), some (.int v6)], [.int (I 74 (Int32.toNatClampNeg v6)), .int v5])) (h1 := zHp I) (fun n => rfl) hc ?_
        obtain rfl := Option.some.inj hm_m606
        refine zEv_go 1 (f1 := (60, [some (.ref 73), none, some (.int v2), some (.int v3), some (.int v4), some (.int v5), some (.int v6)], [.int (I 74 (Int32.toNatClampNeg v6)), .int v5])) (h1 := zHp I) (fun n => rfl) ?_
        exact zEv_weak (L := [some (.ref 73), none, some (.int v2), some (.int v3), some (.int v4), none, some (.int v6)]) (by exact ⟨rfl, ⟨rfl, ⟨rfl, ⟨rfl, ⟨rfl, ⟨rfl, ⟨rfl, trivial⟩⟩⟩⟩⟩⟩⟩) hJ_m606
def Mo_far_L7 : Nat → Int32 → Int32 → Int32 → zI → Option (Int32)
  | 0, _, _, _, _ => none
  | n + 1, v2, v3, v4, I =>
    if 10 ≤ v4 then
      some (-6)
    else
      (Mo_isIn v3 v2 I).bind fun x604 =>
      if x604 = 0 then
        (Mo_far_L31 n v2 v3 v4 v3 0 I).bind fun x608 =>
        Mo_far_L7 n v2 x608 (v4 + 1) I
      else
        some v4
theorem s_Mo_far_L7 (d : Nat) (hd : 1 ≤ d) : ∀ (n : Nat) {v2 : Int32} {v3 : Int32} {v4 : Int32} {I : zI} {r : Int32}, Mo_far_L7 n v2 v3 v4 I = some r → zEv none d 157 (7, [some (.ref 73), none, some (.int v2), some (.int v3), some (.int v4), none, none], []) (zHp I) (some (.int r)) (zHp I) := by
  obtain ⟨d, rfl⟩ : ∃ e, d = e + 1 := ⟨d - 1, by omega⟩
  intro n
  induction n with
  | zero => intros; rename_i hf; cases hf
  | succ n ih =>
    intro v2 v3 v4 I r hf
    rw [Mo_far_L7] at hf
    refine zEv_if 3 (c := 10 ≤ v4) (f1 := (78, [some (.ref 73), none, some (.int v2), some (.int v3), some (.int v4), none, none], [])) (f2 := (14, [some (.ref 73), none, some (.int v2), some (.int v3), some (.int v4), none, none], [])) (h1 := zHp I) (fun n => rfl) (fun hc => ?_) (fun hc => ?_)
    · rw [if_pos hc] at hf
      cases hf
      exact zEv_ret 2 (fun n => rfl)
    · rw [if_neg hc] at hf
      obtain ⟨x604, hx, hf⟩ := Option.bind_eq_some_iff.mp hf
      refine zEv_call 3 (N := 121) (vs := [.int v3, .int v2]) (v1 := some (.int x604)) (h1 := zHp I) (L := [some (.ref 73), none, some (.int v2), some (.int v3), some (.int v4), none, none]) (rest := []) (pc := 19) (fun n => rfl) (s_Mo_isIn hx d (by omega)) rfl rfl ?_
      show zEv _ _ _ (19, [some (.ref 73), none, some (.int v2), some (.int v3), some (.int v4), none, none], [.int x604]) _ _ _
      refine zEv_if 1 (c := x604 = 0) (f1 := (25, [some (.ref 73), none, some (.int v2), some (.int v3), some (.int v4), none, none], [])) (f2 := (22, [some (.ref 73), none, some (.int v2), some (.int v3), some (.int v4), none, none], [])) (h1 := zHp I) (fun n => rfl) (fun hc => ?_) (fun hc => ?_)
      · rw [if_pos hc] at hf
        obtain ⟨x608, hx, hf⟩ := Option.bind_eq_some_iff.mp hf
        refine zEv_go 4 (f1 := (31, [some (.ref 73), none, some (.int v2), some (.int v3), some (.int v4), some (.int v3), some (.int 0)], [])) (h1 := zHp I) (fun n => rfl) ?_
        refine zEv_weak (L := [some (.ref 73), none, some (.int v2), some (.int v3), some (.int v4), some (.int v3), some (.int 0)]) (by exact ⟨rfl, ⟨rfl, ⟨rfl, ⟨rfl, ⟨rfl, ⟨rfl, ⟨rfl, trivial⟩⟩⟩⟩⟩⟩⟩) (s_Mo_far_L31 (d + 1) (by omega) n hx ?_)
        refine zEv_go 4 (f1 := (7, [some (.ref 73), none, some (.int v2), some (.int x608), some (.int (v4 + 1)), some (.int x608), none], [])) (h1 := zHp I) (fun n => rfl) ?_
        refine zEv_weak (L := [some (.ref 73), none, some (.int v2), some (.int x608), some (.int (v4 + 1)), none, none]) (by exact ⟨rfl, ⟨rfl, ⟨rfl, ⟨rfl, ⟨rfl, ⟨rfl, ⟨rfl, trivial⟩⟩⟩⟩⟩⟩⟩) ?_
        exact ih hf
      · rw [if_neg hc] at hf
        cases hf
        exact zEv_ret 2 (fun n => rfl)
def Mo_far (n : Nat) (a0 : Int32) (a1 : Int32) (I : zI) : Option (Int32) :=
  Mo_far_L7 n a1 (zShl 1 a0) 0 I
theorem s_Mo_far {n : Nat} {a0 : Int32} {a1 : Int32} {I : zI} {r : Int32} (hf : Mo_far n a0 a1 I = some r) (d : Nat) (hd : 1 ≤ d) : zCall d 157 [.ref 73, .int a0, .int a1] (zHp I) (some (.int r)) (zHp I) := by
  obtain ⟨d, rfl⟩ : ∃ e, d = e + 1 := ⟨d - 1, by omega⟩
  rw [Mo_far] at hf
  show zEv _ _ _ (0, [some (.ref 73), some (.int a0), some (.int a1), none, none, none, none], []) _ _ _
  refine zEv_go 6 (f1 := (7, [some (.ref 73), some (.int a0), some (.int a1), some (.int (zShl 1 a0)), some (.int 0), none, none], [])) (h1 := zHp I) (fun n => rfl) ?_
  exact zEv_weak (L := [some (.ref 73), none, some (.int a1), some (.int (zShl 1 a0)), some (.int 0), none, none]) (by exact ⟨rfl, ⟨rfl, ⟨rfl, ⟨rfl, ⟨rfl, ⟨rfl, ⟨rfl, trivial⟩⟩⟩⟩⟩⟩⟩) (s_Mo_far_L7 (d + 1) (by omega) n hf)
def Mo_steps (n : Nat) (a0 : Int32) (a1 : Int32) (I : zI) : Option (Int32) :=
  (Mo_isBench a0 I).bind fun x602 =>
  if x602 = 0 then
    some (-1)
  else
    (Mo_isBench a1 I).bind fun x603 =>
    if x603 = 0 then
      some (-1)
    else
      (Mo_far n a0 a1 I).bind fun x609 =>
      some x609
theorem s_Mo_steps {n : Nat} {a0 : Int32} {a1 : Int32} {I : zI} {r : Int32} (hf : Mo_steps n a0 a1 I = some r) (d : Nat) (hd : 2 ≤ d) : zCall d 158 [.ref 73, .int a0, .int a1] (zHp I) (some (.int r)) (zHp I) := by
  obtain ⟨d, rfl⟩ : ∃ e, d = e + 1 := ⟨d - 1, by omega⟩
  rw [Mo_steps] at hf
  show zEv _ _ _ (0, [some (.ref 73), some (.int a0), some (.int a1)], []) _ _ _
  obtain ⟨x602, hx, hf⟩ := Option.bind_eq_some_iff.mp hf
  refine zEv_call 2 (N := 118) (vs := [.int a0]) (v1 := some (.int x602)) (h1 := zHp I) (L := [some (.ref 73), some (.int a0), some (.int a1)]) (rest := []) (pc := 4) (fun n => rfl) (s_Mo_isBench hx d (by omega)) rfl rfl ?_
  show zEv _ _ _ (4, [some (.ref 73), some (.int a0), some (.int a1)], [.int x602]) _ _ _
  refine zEv_if 1 (c := x602 = 0) (f1 := (23, [some (.ref 73), some (.int a0), some (.int a1)], [])) (f2 := (7, [some (.ref 73), some (.int a0), some (.int a1)], [])) (h1 := zHp I) (fun n => rfl) (fun hc => ?_) (fun hc => ?_)
  · rw [if_pos hc] at hf
    cases hf
    exact zEv_ret 2 (fun n => rfl)
  · rw [if_neg hc] at hf
    obtain ⟨x603, hx, hf⟩ := Option.bind_eq_some_iff.mp hf
    refine zEv_call 2 (N := 118) (vs := [.int a1]) (v1 := some (.int x603)) (h1 := zHp I) (L := [some (.ref 73), some (.int a0), some (.int a1)]) (rest := []) (pc := 11) (fun n => rfl) (s_Mo_isBench hx d (by omega)) rfl rfl ?_
    show zEv _ _ _ (11, [some (.ref 73), some (.int a0), some (.int a1)], [.int x603]) _ _ _
    refine zEv_if 1 (c := x603 = 0) (f1 := (23, [some (.ref 73), some (.int a0), some (.int a1)], [])) (f2 := (14, [some (.ref 73), some (.int a0), some (.int a1)], [])) (h1 := zHp I) (fun n => rfl) (fun hc => ?_) (fun hc => ?_)
    · rw [if_pos hc] at hf
      cases hf
      exact zEv_ret 2 (fun n => rfl)
    · rw [if_neg hc] at hf
      obtain ⟨x609, hx, hf⟩ := Option.bind_eq_some_iff.mp hf
      refine zEv_call 4 (N := 157) (vs := [.ref 73, .int a0, .int a1]) (v1 := some (.int x609)) (h1 := zHp I) (L := [some (.ref 73), some (.int a0), some (.int a1)]) (rest := []) (pc := 20) (fun n => rfl) (s_Mo_far hx d (by omega)) rfl rfl ?_
      show zEv _ _ _ (20, [some (.ref 73), some (.int a0), some (.int a1)], [.int x609]) _ _ _
      cases hf
      exact zEv_ret 2 (fun n => rfl)
def Mo_get (n : Nat) (a0 : Int32) (a1 : Int32) (I : zI) : Option (Int32) :=
  (Mo_isOne a0 I).bind fun x610 =>
  if x610 = 0 then
    some (-1)
  else
    (Mo_isMemory a1 I).bind fun x611 =>
    if x611 = 0 then
      some (-1)
    else
      (Mo_whereIs n a1 I).bind fun x612 =>
      if 10 ≤ x612 then
        if zIn a0 8 then
          (Mo_far n (I 75 (Int32.toNatClampNeg a0)) (x612 - 10) I).bind fun x613 =>
          if x613 < 0 then
            some (-6)
          else
            (Mo_isIn (I 73 5) (x612 - 10) I).bind fun x614 =>
            if x614 = 0 then
              some (x613 + 1)
            else
              some (-6)
        else none
      else
        some (-3)
theorem s_Mo_get {n : Nat} {a0 : Int32} {a1 : Int32} {I : zI} {r : Int32} (hf : Mo_get n a0 a1 I = some r) (d : Nat) (hd : 2 ≤ d) : zCall d 159 [.ref 73, .int a0, .int a1] (zHp I) (some (.int r)) (zHp I) := by
  obtain ⟨d, rfl⟩ : ∃ e, d = e + 1 := ⟨d - 1, by omega⟩
  rw [Mo_get] at hf
  show zEv _ _ _ (0, [some (.ref 73), some (.int a0), some (.int a1), none, none], []) _ _ _
  obtain ⟨x610, hx, hf⟩ := Option.bind_eq_some_iff.mp hf
  refine zEv_call 2 (N := 119) (vs := [.int a0]) (v1 := some (.int x610)) (h1 := zHp I) (L := [some (.ref 73), some (.int a0), some (.int a1), none, none]) (rest := []) (pc := 4) (fun n => rfl) (s_Mo_isOne hx d (by omega)) rfl rfl ?_
  show zEv _ _ _ (4, [some (.ref 73), some (.int a0), some (.int a1), none, none], [.int x610]) _ _ _
  refine zEv_if 1 (c := x610 = 0) (f1 := (14, [some (.ref 73), some (.int a0), some (.int a1), none, none], [])) (f2 := (7, [some (.ref 73), some (.int a0), some (.int a1), none, none], [])) (h1 := zHp I) (fun n => rfl) (fun hc => ?_) (fun hc => ?_)
  · rw [if_pos hc] at hf
    cases hf
    exact zEv_ret 2 (fun n => rfl)
  · rw [if_neg hc] at hf
    obtain ⟨x611, hx, hf⟩ := Option.bind_eq_some_iff.mp hf
    refine zEv_call 2 (N := 120) (vs := [.int a1]) (v1 := some (.int x611)) (h1 := zHp I) (L := [some (.ref 73), some (.int a0), some (.int a1), none, none]) (rest := []) (pc := 11) (fun n => rfl) (s_Mo_isMemory hx d (by omega)) rfl rfl ?_
    show zEv _ _ _ (11, [some (.ref 73), some (.int a0), some (.int a1), none, none], [.int x611]) _ _ _
    refine zEv_if 1 (c := x611 = 0) (f1 := (14, [some (.ref 73), some (.int a0), some (.int a1), none, none], [])) (f2 := (16, [some (.ref 73), some (.int a0), some (.int a1), none, none], [])) (h1 := zHp I) (fun n => rfl) (fun hc => ?_) (fun hc => ?_)
    · rw [if_pos hc] at hf
      cases hf
      exact zEv_ret 2 (fun n => rfl)
    · rw [if_neg hc] at hf
      obtain ⟨x612, hx, hf⟩ := Option.bind_eq_some_iff.mp hf
      refine zEv_call 3 (N := 126) (vs := [.ref 73, .int a1]) (v1 := some (.int x612)) (h1 := zHp I) (L := [some (.ref 73), some (.int a0), some (.int a1), none, none]) (rest := []) (pc := 21) (fun n => rfl) (s_Mo_whereIs hx d (by omega)) rfl rfl ?_
      show zEv _ _ _ (21, [some (.ref 73), some (.int a0), some (.int a1), none, none], [.int x612]) _ _ _
      refine zEv_if 4 (c := 10 ≤ x612) (f1 := (31, [some (.ref 73), some (.int a0), some (.int a1), some (.int x612), none], [])) (f2 := (28, [some (.ref 73), some (.int a0), some (.int a1), some (.int x612), none], [])) (h1 := zHp I) (fun n => rfl) (fun hc => ?_) (fun hc => ?_)
      · rw [if_pos hc] at hf
        obtain ⟨hc, hf⟩ := zGd_inv hf
        refine zEv_gd 5 (c := zIn a0 8) (f1 := (38, [some (.ref 73), some (.int a0), some (.int a1), some (.int x612), none], [.int (I 75 (Int32.toNatClampNeg a0)), .ref 73])) (h1 := zHp I) (fun n => rfl) hc ?_
        obtain ⟨x613, hx, hf⟩ := Option.bind_eq_some_iff.mp hf
        refine zEv_call 4 (N := 157) (vs := [.ref 73, .int (I 75 (Int32.toNatClampNeg a0)), .int (x612 - 10)]) (v1 := some (.int x613)) (h1 := zHp I) (L := [some (.ref 73), some (.int a0), some (.int a1), some (.int x612), none]) (rest := []) (pc := 45) (fun n => rfl) (s_Mo_far hx d (by omega)) rfl rfl ?_
        show zEv _ _ _ (45, [some (.ref 73), some (.int a0), some (.int a1), some (.int x612), none], [.int x613]) _ _ _
        refine zEv_if 3 (c := x613 < 0) (f1 := (66, [some (.ref 73), some (.int a0), some (.int a1), some (.int x612), some (.int x613)], [])) (f2 := (52, [some (.ref 73), some (.int a0), some (.int a1), some (.int x612), some (.int x613)], [])) (h1 := zHp I) (fun n => rfl) (fun hc => ?_) (fun hc => ?_)
        · rw [if_pos hc] at hf
          cases hf
          exact zEv_ret 3 (fun n => rfl)
        · rw [if_neg hc] at hf
          obtain ⟨x614, hx, hf⟩ := Option.bind_eq_some_iff.mp hf
          refine zEv_call 6 (N := 121) (vs := [.int (I 73 5), .int (x612 - 10)]) (v1 := some (.int x614)) (h1 := zHp I) (L := [some (.ref 73), some (.int a0), some (.int a1), some (.int x612), some (.int x613)]) (rest := []) (pc := 63) (fun n => rfl) (s_Mo_isIn hx d (by omega)) rfl rfl ?_
          show zEv _ _ _ (63, [some (.ref 73), some (.int a0), some (.int a1), some (.int x612), some (.int x613)], [.int x614]) _ _ _
          refine zEv_if 1 (c := x614 = 0) (f1 := (71, [some (.ref 73), some (.int a0), some (.int a1), some (.int x612), some (.int x613)], [])) (f2 := (66, [some (.ref 73), some (.int a0), some (.int a1), some (.int x612), some (.int x613)], [])) (h1 := zHp I) (fun n => rfl) (fun hc => ?_) (fun hc => ?_)
          · rw [if_pos hc] at hf
            cases hf
            exact zEv_ret 4 (fun n => rfl)
          · rw [if_neg hc] at hf
            cases hf
            exact zEv_ret 3 (fun n => rfl)
      · rw [if_neg hc] at hf
        cases hf
        exact zEv_ret 2 (fun n => rfl)
def Mo_findOff_L2 : Nat → Int32 → zI → Option (zI)
  | 0, _, _ => none
  | n + 1, v1, I =>
    if 100 ≤ v1 then
      some I
    else
      (Mo_far n (v1 / 10) (zRem v1 10) I).bind fun x617 =>
      if zIn v1 100 then
        Mo_findOff_L2 n (v1 + 1) (zUp I 89 (Int32.toNatClampNeg v1) x617)
      else none
theorem s_Mo_findOff_L2 (d : Nat) (hd : 2 ≤ d) : ∀ (n : Nat) {v1 : Int32} {I : zI}  {I' : zI} {v : Option Value} {h' : zH}, Mo_findOff_L2 n v1 I = some I' → zEv none d 160 (32, [some (.ref 73), none], []) (zHp I') v h' → zEv none d 160 (2, [some (.ref 73), some (.int v1)], []) (zHp I) v h' := by
  obtain ⟨d, rfl⟩ : ∃ e, d = e + 1 := ⟨d - 1, by omega⟩
  intro n
  induction n with
  | zero => intros; rename_i hf _; cases hf
  | succ n ih =>
    intro v1 I I' v h' hf kk
    rw [Mo_findOff_L2] at hf
    refine zEv_if 3 (c := 100 ≤ v1) (f1 := (32, [some (.ref 73), some (.int v1)], [])) (f2 := (8, [some (.ref 73), some (.int v1)], [])) (h1 := zHp I) (fun n => rfl) (fun hc => ?_) (fun hc => ?_)
    · rw [if_pos hc] at hf
      obtain rfl := Option.some.inj hf
      exact zEv_weak (L := [some (.ref 73), none]) (by exact ⟨rfl, ⟨rfl, trivial⟩⟩) kk
    · rw [if_neg hc] at hf
      obtain ⟨x617, hx, hf⟩ := Option.bind_eq_some_iff.mp hf
      refine zEv_call 11 (N := 157) (vs := [.ref 73, .int (v1 / 10), .int (zRem v1 10)]) (v1 := some (.int x617)) (h1 := zHp I) (L := [some (.ref 73), some (.int v1)]) (rest := [.int v1, .ref 89]) (pc := 25) (fun n => rfl) (s_Mo_far hx d (by omega)) rfl rfl ?_
      show zEv _ _ _ (25, [some (.ref 73), some (.int v1)], [.int x617, .int v1, .ref 89]) _ _ _
      obtain ⟨hc, hf⟩ := zGd_inv hf
      refine zEv_gd 1 (c := zIn v1 100) (f1 := (26, [some (.ref 73), some (.int v1)], [])) (h1 := zHp (zUp I 89 (Int32.toNatClampNeg v1) x617)) (fun n => rfl) hc ?_
      refine zEv_go 2 (f1 := (2, [some (.ref 73), some (.int (v1 + 1))], [])) (h1 := zHp (zUp I 89 (Int32.toNatClampNeg v1) x617)) (fun n => rfl) ?_
      refine zEv_weak (L := [some (.ref 73), some (.int (v1 + 1))]) (by exact ⟨rfl, ⟨rfl, trivial⟩⟩) ?_
      exact ih hf kk
def Mo_findOff (n : Nat) (I : zI) : Option (zI) :=
  (Mo_findOff_L2 n 0 I).bind fun I618 =>
  some I618
theorem s_Mo_findOff {n : Nat} {I : zI} {I' : zI} (hf : Mo_findOff n I = some I') (d : Nat) (hd : 2 ≤ d) : zCall d 160 [.ref 73] (zHp I) (none) (zHp I') := by
  obtain ⟨d, rfl⟩ : ∃ e, d = e + 1 := ⟨d - 1, by omega⟩
  rw [Mo_findOff] at hf
  show zEv _ _ _ (0, [some (.ref 73), none], []) _ _ _
  obtain ⟨I618, hx, hf⟩ := Option.bind_eq_some_iff.mp hf
  refine zEv_go 2 (f1 := (2, [some (.ref 73), some (.int 0)], [])) (h1 := zHp I) (fun n => rfl) ?_
  refine zEv_weak (L := [some (.ref 73), some (.int 0)]) (by exact ⟨rfl, ⟨rfl, trivial⟩⟩) (s_Mo_findOff_L2 (d + 1) (by omega) n hx ?_)
  cases hf
  exact zEv_ret 1 (fun n => rfl)
def Mo_least  (a0 : Int32) (a1 : Int32) (I : zI) : Option (Int32) :=
  if a0 < 0 then
    some a1
  else
    if a1 < 0 then
      some a0
    else
      if a0 ≤ a1 then
        some a0
      else
        some a1
theorem s_Mo_least  {a0 : Int32} {a1 : Int32} {I : zI} {r : Int32} (hf : Mo_least a0 a1 I = some r) (d : Nat) (hd : 0 ≤ d) : zCall d 161 [.int a0, .int a1] (zHp I) (some (.int r)) (zHp I) := by
  rw [Mo_least] at hf
  show zEv _ _ _ (0, [some (.int a0), some (.int a1)], []) _ _ _
  refine zEv_if 2 (c := a0 < 0) (f1 := (13, [some (.int a0), some (.int a1)], [])) (f2 := (4, [some (.int a0), some (.int a1)], [])) (h1 := zHp I) (fun n => rfl) (fun hc => ?_) (fun hc => ?_)
  · rw [if_pos hc] at hf
    cases hf
    exact zEv_ret 3 (fun n => rfl)
  · rw [if_neg hc] at hf
    refine zEv_if 2 (c := a1 < 0) (f1 := (17, [some (.int a0), some (.int a1)], [])) (f2 := (8, [some (.int a0), some (.int a1)], [])) (h1 := zHp I) (fun n => rfl) (fun hc => ?_) (fun hc => ?_)
    · rw [if_pos hc] at hf
      cases hf
      exact zEv_ret 2 (fun n => rfl)
    · rw [if_neg hc] at hf
      refine zEv_if 3 (c := a0 ≤ a1) (f1 := (17, [some (.int a0), some (.int a1)], [])) (f2 := (13, [some (.int a0), some (.int a1)], [])) (h1 := zHp I) (fun n => rfl) (fun hc => ?_) (fun hc => ?_)
      · rw [if_pos hc] at hf
        cases hf
        exact zEv_ret 2 (fun n => rfl)
      · rw [if_neg hc] at hf
        cases hf
        exact zEv_ret 3 (fun n => rfl)
def Mo_rowBy_L33 : Nat → Int32 → Int32 → Int32 → Int32 → zI → Option (Int32)
  | 0, _, _, _, _, _ => none
  | n + 1, v3, v4, v5, v6, I =>
    if 10 ≤ v6 then
      some v5
    else
      (Mo_isIn v4 v6 I).bind fun x622 =>
      (
        if x622 = 0 then
          some 0
        else
          if zIn ((10 * v4) + v6) 10240 then
            if (I 88 (Int32.toNatClampNeg ((10 * v4) + v6))) < 0 then
              some 0
            else
              if zIn ((10 * v6) + v3) 100 then
                if (I 89 (Int32.toNatClampNeg ((10 * v6) + v3))) < 0 then
                  some 0
                else
                  some 1
              else none
          else none : Option (Int32)).bind fun x624 =>
      (
        if x624 = 0 then
          some v5
        else
          if zIn ((10 * v4) + v6) 10240 then
            if zIn ((10 * v6) + v3) 100 then
              (Mo_least v5 ((I 88 (Int32.toNatClampNeg ((10 * v4) + v6))) + (I 89 (Int32.toNatClampNeg ((10 * v6) + v3)))) I).bind fun x626 =>
              some x626
            else none
          else none : Option (Int32)).bind fun x627 =>
      Mo_rowBy_L33 n v3 v4 x627 (v6 + 1) I
theorem s_Mo_rowBy_L33 (d : Nat) (hd : 1 ≤ d) : ∀ (n : Nat) {v3 : Int32} {v4 : Int32} {v5 : Int32} {v6 : Int32} {I : zI} {y5 : Int32} {v : Option Value} {h' : zH}, Mo_rowBy_L33 n v3 v4 v5 v6 I = some y5 → zEv none d 162 (137, [some (.ref 73), none, none, none, none, some (.int y5), none, none], []) (zHp I) v h' → zEv none d 162 (33, [some (.ref 73), none, none, some (.int v3), some (.int v4), some (.int v5), some (.int v6), none], []) (zHp I) v h' := by
  obtain ⟨d, rfl⟩ : ∃ e, d = e + 1 := ⟨d - 1, by omega⟩
  intro n
  induction n with
  | zero => intros; rename_i hf _; cases hf
  | succ n ih =>
    intro v3 v4 v5 v6 I y5 v h' hf kk
    rw [Mo_rowBy_L33] at hf
    refine zEv_if 3 (c := 10 ≤ v6) (f1 := (137, [some (.ref 73), none, none, some (.int v3), some (.int v4), some (.int v5), some (.int v6), none], [])) (f2 := (40, [some (.ref 73), none, none, some (.int v3), some (.int v4), some (.int v5), some (.int v6), none], [])) (h1 := zHp I) (fun n => rfl) (fun hc => ?_) (fun hc => ?_)
    · rw [if_pos hc] at hf
      obtain rfl := Option.some.inj hf
      exact zEv_weak (L := [some (.ref 73), none, none, none, none, some (.int v5), none, none]) (by exact ⟨rfl, ⟨rfl, ⟨rfl, ⟨rfl, ⟨rfl, ⟨rfl, ⟨rfl, ⟨rfl, trivial⟩⟩⟩⟩⟩⟩⟩⟩) kk
    · rw [if_neg hc] at hf
      obtain ⟨x622, hx, hf⟩ := Option.bind_eq_some_iff.mp hf
      refine zEv_call 3 (N := 121) (vs := [.int v4, .int v6]) (v1 := some (.int x622)) (h1 := zHp I) (L := [some (.ref 73), none, none, some (.int v3), some (.int v4), some (.int v5), some (.int v6), none]) (rest := []) (pc := 47) (fun n => rfl) (s_Mo_isIn hx d (by omega)) rfl rfl ?_
      show zEv _ _ _ (47, [some (.ref 73), none, none, some (.int v3), some (.int v4), some (.int v5), some (.int v6), none], [.int x622]) _ _ _
      obtain ⟨x624, hm_m623, hf⟩ := Option.bind_eq_some_iff.mp hf
      have hJ_m623 : zEv none (d + 1) 162 (86, [some (.ref 73), none, none, some (.int v3), some (.int v4), some (.int v5), some (.int v6), none], [.int x624]) (zHp I) v h' := by
        obtain ⟨x627, hm_m625, hf⟩ := Option.bind_eq_some_iff.mp hf
        have hJ_m625 : zEv none (d + 1) 162 (129, [some (.ref 73), none, none, some (.int v3), some (.int v4), none, some (.int v6), none], [.int x627]) (zHp I) v h' := by
          refine zEv_go 3 (f1 := (33, [some (.ref 73), none, none, some (.int v3), some (.int v4), some (.int x627), some (.int (v6 + 1)), none], [])) (h1 := zHp I) (fun n => rfl) ?_
          refine zEv_weak (L := [some (.ref 73), none, none, some (.int v3), some (.int v4), some (.int x627), some (.int (v6 + 1)), none]) (by exact ⟨rfl, ⟨rfl, ⟨rfl, ⟨rfl, ⟨rfl, ⟨rfl, ⟨rfl, ⟨rfl, trivial⟩⟩⟩⟩⟩⟩⟩⟩) ?_
          exact ih hf kk
        clear hf
        refine zEv_if 3 (c := x624 = 0) (f1 := (127, [some (.ref 73), none, none, some (.int v3), some (.int v4), some (.int v5), some (.int v6), some (.int x624)], [])) (f2 := (93, [some (.ref 73), none, none, some (.int v3), some (.int v4), some (.int v5), some (.int v6), some (.int x624)], [])) (h1 := zHp I) (fun n => rfl) (fun hc => ?_) (fun hc => ?_)
        · rw [if_pos hc] at hm_m625
          obtain rfl := Option.some.inj hm_m625
          refine zEv_go 1 (f1 := (129, [some (.ref 73), none, none, some (.int v3), some (.int v4), some (.int v5), some (.int v6), some (.int x624)], [.int v5])) (h1 := zHp I) (fun n => rfl) ?_
          exact zEv_weak (L := [some (.ref 73), none, none, some (.int v3), some (.int v4), none, some (.int v6), none]) (by exact ⟨rfl, ⟨rfl, ⟨rfl, ⟨rfl, ⟨rfl, ⟨rfl, ⟨rfl, ⟨rfl, trivial⟩⟩⟩⟩⟩⟩⟩⟩) hJ_m625
        · rw [if_neg hc] at hm_m625
          obtain ⟨hc, hm_m625⟩ := zGd_inv hm_m625
          refine zEv_gd 9 (c := zIn ((10 * v4) + v6) 10240) (f1 := (108, [some (.ref 73), none, none, some (.int v3), some (.int v4), some (.int v5), some (.int v6), some (.int x624)], [.int (I 88 (Int32.toNatClampNeg ((10 * v4) + v6))), .int v5])) (h1 := zHp I) (fun n => rfl) hc ?_
          obtain ⟨hc, hm_m625⟩ := zGd_inv hm_m625
          refine zEv_gd 8 (c := zIn ((10 * v6) + v3) 100) (f1 := (120, [some (.ref 73), none, none, some (.int v3), some (.int v4), some (.int v5), some (.int v6), some (.int x624)], [.int (I 89 (Int32.toNatClampNeg ((10 * v6) + v3))), .int (I 88 (Int32.toNatClampNeg ((10 * v4) + v6))), .int v5])) (h1 := zHp I) (fun n => rfl) hc ?_
          obtain ⟨x626, hx, hm_m625⟩ := Option.bind_eq_some_iff.mp hm_m625
          refine zEv_call 2 (N := 161) (vs := [.int v5, .int ((I 88 (Int32.toNatClampNeg ((10 * v4) + v6))) + (I 89 (Int32.toNatClampNeg ((10 * v6) + v3))))]) (v1 := some (.int x626)) (h1 := zHp I) (L := [some (.ref 73), none, none, some (.int v3), some (.int v4), some (.int v5), some (.int v6), some (.int x624)]) (rest := []) (pc := 124) (fun n => rfl) (s_Mo_least hx d (by omega)) rfl rfl ?_
          show zEv _ _ _ (124, [some (.ref 73), none, none, some (.int v3), some (.int v4), some (.int v5), some (.int v6), some (.int x624)], [.int x626]) _ _ _
          obtain rfl := Option.some.inj hm_m625
          refine zEv_go 1 (f1 := (129, [some (.ref 73), none, none, some (.int v3), some (.int v4), some (.int v5), some (.int v6), some (.int x624)], [.int x626])) (h1 := zHp I) (fun n => rfl) ?_
          exact zEv_weak (L := [some (.ref 73), none, none, some (.int v3), some (.int v4), none, some (.int v6), none]) (by exact ⟨rfl, ⟨rfl, ⟨rfl, ⟨rfl, ⟨rfl, ⟨rfl, ⟨rfl, ⟨rfl, trivial⟩⟩⟩⟩⟩⟩⟩⟩) hJ_m625
      clear hf
      refine zEv_if 1 (c := x622 = 0) (f1 := (85, [some (.ref 73), none, none, some (.int v3), some (.int v4), some (.int v5), some (.int v6), none], [])) (f2 := (50, [some (.ref 73), none, none, some (.int v3), some (.int v4), some (.int v5), some (.int v6), none], [])) (h1 := zHp I) (fun n => rfl) (fun hc => ?_) (fun hc => ?_)
      · rw [if_pos hc] at hm_m623
        obtain rfl := Option.some.inj hm_m623
        refine zEv_go 1 (f1 := (86, [some (.ref 73), none, none, some (.int v3), some (.int v4), some (.int v5), some (.int v6), none], [.int 0])) (h1 := zHp I) (fun n => rfl) ?_
        exact zEv_weak (L := [some (.ref 73), none, none, some (.int v3), some (.int v4), some (.int v5), some (.int v6), none]) (by exact ⟨rfl, ⟨rfl, ⟨rfl, ⟨rfl, ⟨rfl, ⟨rfl, ⟨rfl, ⟨rfl, trivial⟩⟩⟩⟩⟩⟩⟩⟩) hJ_m623
      · rw [if_neg hc] at hm_m623
        obtain ⟨hc, hm_m623⟩ := zGd_inv hm_m623
        refine zEv_gd 8 (c := zIn ((10 * v4) + v6) 10240) (f1 := (63, [some (.ref 73), none, none, some (.int v3), some (.int v4), some (.int v5), some (.int v6), none], [.int (I 88 (Int32.toNatClampNeg ((10 * v4) + v6)))])) (h1 := zHp I) (fun n => rfl) hc ?_
        refine zEv_if 1 (c := (I 88 (Int32.toNatClampNeg ((10 * v4) + v6))) < 0) (f1 := (85, [some (.ref 73), none, none, some (.int v3), some (.int v4), some (.int v5), some (.int v6), none], [])) (f2 := (66, [some (.ref 73), none, none, some (.int v3), some (.int v4), some (.int v5), some (.int v6), none], [])) (h1 := zHp I) (fun n => rfl) (fun hc => ?_) (fun hc => ?_)
        · rw [if_pos hc] at hm_m623
          obtain rfl := Option.some.inj hm_m623
          refine zEv_go 1 (f1 := (86, [some (.ref 73), none, none, some (.int v3), some (.int v4), some (.int v5), some (.int v6), none], [.int 0])) (h1 := zHp I) (fun n => rfl) ?_
          exact zEv_weak (L := [some (.ref 73), none, none, some (.int v3), some (.int v4), some (.int v5), some (.int v6), none]) (by exact ⟨rfl, ⟨rfl, ⟨rfl, ⟨rfl, ⟨rfl, ⟨rfl, ⟨rfl, ⟨rfl, trivial⟩⟩⟩⟩⟩⟩⟩⟩) hJ_m623
        · rw [if_neg hc] at hm_m623
          obtain ⟨hc, hm_m623⟩ := zGd_inv hm_m623
          refine zEv_gd 8 (c := zIn ((10 * v6) + v3) 100) (f1 := (78, [some (.ref 73), none, none, some (.int v3), some (.int v4), some (.int v5), some (.int v6), none], [.int (I 89 (Int32.toNatClampNeg ((10 * v6) + v3)))])) (h1 := zHp I) (fun n => rfl) hc ?_
          refine zEv_if 1 (c := (I 89 (Int32.toNatClampNeg ((10 * v6) + v3))) < 0) (f1 := (85, [some (.ref 73), none, none, some (.int v3), some (.int v4), some (.int v5), some (.int v6), none], [])) (f2 := (81, [some (.ref 73), none, none, some (.int v3), some (.int v4), some (.int v5), some (.int v6), none], [])) (h1 := zHp I) (fun n => rfl) (fun hc => ?_) (fun hc => ?_)
          · rw [if_pos hc] at hm_m623
            obtain rfl := Option.some.inj hm_m623
            refine zEv_go 1 (f1 := (86, [some (.ref 73), none, none, some (.int v3), some (.int v4), some (.int v5), some (.int v6), none], [.int 0])) (h1 := zHp I) (fun n => rfl) ?_
            exact zEv_weak (L := [some (.ref 73), none, none, some (.int v3), some (.int v4), some (.int v5), some (.int v6), none]) (by exact ⟨rfl, ⟨rfl, ⟨rfl, ⟨rfl, ⟨rfl, ⟨rfl, ⟨rfl, ⟨rfl, trivial⟩⟩⟩⟩⟩⟩⟩⟩) hJ_m623
          · rw [if_neg hc] at hm_m623
            obtain rfl := Option.some.inj hm_m623
            refine zEv_go 2 (f1 := (86, [some (.ref 73), none, none, some (.int v3), some (.int v4), some (.int v5), some (.int v6), none], [.int 1])) (h1 := zHp I) (fun n => rfl) ?_
            exact zEv_weak (L := [some (.ref 73), none, none, some (.int v3), some (.int v4), some (.int v5), some (.int v6), none]) (by exact ⟨rfl, ⟨rfl, ⟨rfl, ⟨rfl, ⟨rfl, ⟨rfl, ⟨rfl, ⟨rfl, trivial⟩⟩⟩⟩⟩⟩⟩⟩) hJ_m623
def Mo_rowBy (n : Nat) (a0 : Int32) (a1 : Int32) (a2 : Int32) (I : zI) : Option (Int32) :=
  if (a1 &&& ((zShl 1 a2) ^^^ (-1))) = 0 then
    if zIn ((10 * a0) + a2) 100 then
      some (I 89 (Int32.toNatClampNeg ((10 * a0) + a2)))
    else none
  else
    (Mo_rowBy_L33 n a2 (a1 &&& ((zShl 1 a2) ^^^ (-1))) (-6) 0 I).bind fun x628 =>
    some x628
theorem s_Mo_rowBy {n : Nat} {a0 : Int32} {a1 : Int32} {a2 : Int32} {I : zI} {r : Int32} (hf : Mo_rowBy n a0 a1 a2 I = some r) (d : Nat) (hd : 1 ≤ d) : zCall d 162 [.ref 73, .int a0, .int a1, .int a2] (zHp I) (some (.int r)) (zHp I) := by
  obtain ⟨d, rfl⟩ : ∃ e, d = e + 1 := ⟨d - 1, by omega⟩
  rw [Mo_rowBy] at hf
  show zEv _ _ _ (0, [some (.ref 73), some (.int a0), some (.int a1), some (.int a2), none, none, none, none], []) _ _ _
  refine zEv_if 10 (c := (a1 &&& ((zShl 1 a2) ^^^ (-1))) = 0) (f1 := (14, [some (.ref 73), some (.int a0), some (.int a1), some (.int a2), some (.int (a1 &&& ((zShl 1 a2) ^^^ (-1)))), none, none, none], [])) (f2 := (26, [some (.ref 73), some (.int a0), some (.int a1), some (.int a2), some (.int (a1 &&& ((zShl 1 a2) ^^^ (-1)))), none, none, none], [])) (h1 := zHp I) (fun n => rfl) (fun hc => ?_) (fun hc => ?_)
  · rw [if_pos hc] at hf
    obtain ⟨hc, hf⟩ := zGd_inv hf
    refine zEv_gd 8 (c := zIn ((10 * a0) + a2) 100) (f1 := (25, [some (.ref 73), some (.int a0), some (.int a1), some (.int a2), some (.int (a1 &&& ((zShl 1 a2) ^^^ (-1)))), none, none, none], [.int (I 89 (Int32.toNatClampNeg ((10 * a0) + a2)))])) (h1 := zHp I) (fun n => rfl) hc ?_
    cases hf
    exact zEv_ret 1 (fun n => rfl)
  · rw [if_neg hc] at hf
    obtain ⟨x628, hx, hf⟩ := Option.bind_eq_some_iff.mp hf
    refine zEv_go 4 (f1 := (33, [some (.ref 73), some (.int a0), some (.int a1), some (.int a2), some (.int (a1 &&& ((zShl 1 a2) ^^^ (-1)))), some (.int (-6)), some (.int 0), none], [])) (h1 := zHp I) (fun n => rfl) ?_
    refine zEv_weak (L := [some (.ref 73), none, none, some (.int a2), some (.int (a1 &&& ((zShl 1 a2) ^^^ (-1)))), some (.int (-6)), some (.int 0), none]) (by exact ⟨rfl, ⟨rfl, ⟨rfl, ⟨rfl, ⟨rfl, ⟨rfl, ⟨rfl, ⟨rfl, trivial⟩⟩⟩⟩⟩⟩⟩⟩) (s_Mo_rowBy_L33 (d + 1) (by omega) n hx ?_)
    cases hf
    exact zEv_ret 2 (fun n => rfl)
