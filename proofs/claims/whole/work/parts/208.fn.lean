def Mo_ones_L4 : Nat → Int32 → Int32 → zI → Option (Int32)
  | 0, _, _, _ => none
  | n + 1, v1, v2, I =>
    if v2 = 0 then
      some v1
    else
      Mo_ones_L4 n (v1 + 1) (v2 &&& (v2 - 1)) I
theorem s_Mo_ones_L4 (d : Nat) (hd : 0 ≤ d) : ∀ (n : Nat) {v1 : Int32} {v2 : Int32} {I : zI} {y1 : Int32} {v : Option Value} {h' : zH}, Mo_ones_L4 n v1 v2 I = some y1 → zEv none d 123 (20, [none, some (.int y1), none], []) (zHp I) v h' → zEv none d 123 (4, [none, some (.int v1), some (.int v2)], []) (zHp I) v h' := by
  intro n
  induction n with
  | zero => intros; rename_i hf _; cases hf
  | succ n ih =>
    intro v1 v2 I y1 v h' hf kk
    rw [Mo_ones_L4] at hf
    refine zEv_if 2 (c := v2 = 0) (f1 := (20, [none, some (.int v1), some (.int v2)], [])) (f2 := (8, [none, some (.int v1), some (.int v2)], [])) (h1 := zHp I) (fun n => rfl) (fun hc => ?_) (fun hc => ?_)
    · rw [if_pos hc] at hf
      obtain rfl := Option.some.inj hf
      exact zEv_weak (L := [none, some (.int v1), none]) (by exact ⟨rfl, ⟨rfl, ⟨rfl, trivial⟩⟩⟩) kk
    · rw [if_neg hc] at hf
      refine zEv_go 8 (f1 := (4, [none, some (.int (v1 + 1)), some (.int (v2 &&& (v2 - 1)))], [])) (h1 := zHp I) (fun n => rfl) ?_
      refine zEv_weak (L := [none, some (.int (v1 + 1)), some (.int (v2 &&& (v2 - 1)))]) (by exact ⟨rfl, ⟨rfl, ⟨rfl, trivial⟩⟩⟩) ?_
      exact ih hf kk
def Mo_ones (n : Nat) (a0 : Int32) (I : zI) : Option (Int32) :=
  (Mo_ones_L4 n 0 a0 I).bind fun x469 =>
  some x469
theorem s_Mo_ones {n : Nat} {a0 : Int32} {I : zI} {r : Int32} (hf : Mo_ones n a0 I = some r) (d : Nat) (hd : 0 ≤ d) : zCall d 123 [.int a0] (zHp I) (some (.int r)) (zHp I) := by
  rw [Mo_ones] at hf
  show zEv _ _ _ (0, [some (.int a0), none, none], []) _ _ _
  obtain ⟨x469, hx, hf⟩ := Option.bind_eq_some_iff.mp hf
  refine zEv_go 4 (f1 := (4, [some (.int a0), some (.int 0), some (.int a0)], [])) (h1 := zHp I) (fun n => rfl) ?_
  refine zEv_weak (L := [none, some (.int 0), some (.int a0)]) (by exact ⟨rfl, ⟨rfl, ⟨rfl, trivial⟩⟩⟩) (s_Mo_ones_L4 (d) (by omega) n hx ?_)
  cases hf
  exact zEv_ret 2 (fun n => rfl)
def Mo_way_L61 : Nat → Int32 → Int32 → zI → Option (Int32)
  | 0, _, _, _ => none
  | n + 1, v4, v5, I =>
    if 10 ≤ v5 then
      some v4
    else
      if zIn v5 10 then
        (Mo_ones n (I 74 (Int32.toNatClampNeg v5)) I).bind fun x470 =>
        Mo_way_L61 n (v4 + x470) (v5 + 1) I
      else none
theorem s_Mo_way_L61 (d : Nat) (hd : 2 ≤ d) : ∀ (n : Nat) {v4 : Int32} {v5 : Int32} {I : zI} {y4 : Int32} {v : Option Value} {h' : zH}, Mo_way_L61 n v4 v5 I = some y4 → zEv none d 124 (89, [some (.ref 73), none, none, none, some (.int y4), none], []) (zHp I) v h' → zEv none d 124 (61, [some (.ref 73), none, none, none, some (.int v4), some (.int v5)], []) (zHp I) v h' := by
  obtain ⟨d, rfl⟩ : ∃ e, d = e + 1 := ⟨d - 1, by omega⟩
  intro n
  induction n with
  | zero => intros; rename_i hf _; cases hf
  | succ n ih =>
    intro v4 v5 I y4 v h' hf kk
    rw [Mo_way_L61] at hf
    refine zEv_if 3 (c := 10 ≤ v5) (f1 := (89, [some (.ref 73), none, none, none, some (.int v4), some (.int v5)], [])) (f2 := (68, [some (.ref 73), none, none, none, some (.int v4), some (.int v5)], [])) (h1 := zHp I) (fun n => rfl) (fun hc => ?_) (fun hc => ?_)
    · rw [if_pos hc] at hf
      obtain rfl := Option.some.inj hf
      exact zEv_weak (L := [some (.ref 73), none, none, none, some (.int v4), none]) (by exact ⟨rfl, ⟨rfl, ⟨rfl, ⟨rfl, ⟨rfl, ⟨rfl, trivial⟩⟩⟩⟩⟩⟩) kk
    · rw [if_neg hc] at hf
      obtain ⟨hc, hf⟩ := zGd_inv hf
      refine zEv_gd 5 (c := zIn v5 10) (f1 := (77, [some (.ref 73), none, none, none, some (.int v4), some (.int v5)], [.int (I 74 (Int32.toNatClampNeg v5)), .int v4])) (h1 := zHp I) (fun n => rfl) hc ?_
      obtain ⟨x470, hx, hf⟩ := Option.bind_eq_some_iff.mp hf
      refine zEv_call 1 (N := 123) (vs := [.int (I 74 (Int32.toNatClampNeg v5))]) (v1 := some (.int x470)) (h1 := zHp I) (L := [some (.ref 73), none, none, none, some (.int v4), some (.int v5)]) (rest := [.int v4]) (pc := 80) (fun n => rfl) (s_Mo_ones hx d (by omega)) rfl rfl ?_
      show zEv _ _ _ (80, [some (.ref 73), none, none, none, some (.int v4), some (.int v5)], [.int x470, .int v4]) _ _ _
      refine zEv_go 4 (f1 := (61, [some (.ref 73), none, none, none, some (.int (v4 + x470)), some (.int (v5 + 1))], [])) (h1 := zHp I) (fun n => rfl) ?_
      refine zEv_weak (L := [some (.ref 73), none, none, none, some (.int (v4 + x470)), some (.int (v5 + 1))]) (by exact ⟨rfl, ⟨rfl, ⟨rfl, ⟨rfl, ⟨rfl, ⟨rfl, trivial⟩⟩⟩⟩⟩⟩) ?_
      exact ih hf kk
def Mo_way (n : Nat) (a0 : Int32) (a1 : Int32) (a2 : Int32) (I : zI) : Option (Int32 × zI) :=
  (Mo_isBench a0 I).bind fun x465 =>
  if x465 = 0 then
    some ((-1), I)
  else
    (Mo_isBench a1 I).bind fun x466 =>
    if x466 = 0 then
      some ((-1), I)
    else
      if a0 = a1 then
        some ((-1), I)
      else
        if zIn a0 10 then
          (Mo_with (I 74 (Int32.toNatClampNeg a0)) a1 a2 I).bind fun x467 =>
          if zIn a0 10 then
            if zIn a1 10 then
              (Mo_with ((zUp I 74 (Int32.toNatClampNeg a0) x467) 74 (Int32.toNatClampNeg a1)) a0 a2 (zUp I 74 (Int32.toNatClampNeg a0) x467)).bind fun x468 =>
              if zIn a1 10 then
                (Mo_way_L61 n 0 0 (zUp (zUp I 74 (Int32.toNatClampNeg a0) x467) 74 (Int32.toNatClampNeg a1) x468)).bind fun x471 =>
                some ((x471 / 2), (zUp (zUp I 74 (Int32.toNatClampNeg a0) x467) 74 (Int32.toNatClampNeg a1) x468))
              else none
            else none
          else none
        else none
theorem s_Mo_way {n : Nat} {a0 : Int32} {a1 : Int32} {a2 : Int32} {I : zI} {r : Int32} {I' : zI} (hf : Mo_way n a0 a1 a2 I = some (r, I')) (d : Nat) (hd : 2 ≤ d) : zCall d 124 [.ref 73, .int a0, .int a1, .int a2] (zHp I) (some (.int r)) (zHp I') := by
  obtain ⟨d, rfl⟩ : ∃ e, d = e + 1 := ⟨d - 1, by omega⟩
  rw [Mo_way] at hf
  show zEv _ _ _ (0, [some (.ref 73), some (.int a0), some (.int a1), some (.int a2), none, none], []) _ _ _
  obtain ⟨x465, hx, hf⟩ := Option.bind_eq_some_iff.mp hf
  refine zEv_call 2 (N := 118) (vs := [.int a0]) (v1 := some (.int x465)) (h1 := zHp I) (L := [some (.ref 73), some (.int a0), some (.int a1), some (.int a2), none, none]) (rest := []) (pc := 4) (fun n => rfl) (s_Mo_isBench hx d (by omega)) rfl rfl ?_
  show zEv _ _ _ (4, [some (.ref 73), some (.int a0), some (.int a1), some (.int a2), none, none], [.int x465]) _ _ _
  refine zEv_if 1 (c := x465 = 0) (f1 := (19, [some (.ref 73), some (.int a0), some (.int a1), some (.int a2), none, none], [])) (f2 := (7, [some (.ref 73), some (.int a0), some (.int a1), some (.int a2), none, none], [])) (h1 := zHp I) (fun n => rfl) (fun hc => ?_) (fun hc => ?_)
  · rw [if_pos hc] at hf
    cases hf
    exact zEv_ret 2 (fun n => rfl)
  · rw [if_neg hc] at hf
    obtain ⟨x466, hx, hf⟩ := Option.bind_eq_some_iff.mp hf
    refine zEv_call 2 (N := 118) (vs := [.int a1]) (v1 := some (.int x466)) (h1 := zHp I) (L := [some (.ref 73), some (.int a0), some (.int a1), some (.int a2), none, none]) (rest := []) (pc := 11) (fun n => rfl) (s_Mo_isBench hx d (by omega)) rfl rfl ?_
    show zEv _ _ _ (11, [some (.ref 73), some (.int a0), some (.int a1), some (.int a2), none, none], [.int x466]) _ _ _
    refine zEv_if 1 (c := x466 = 0) (f1 := (19, [some (.ref 73), some (.int a0), some (.int a1), some (.int a2), none, none], [])) (f2 := (14, [some (.ref 73), some (.int a0), some (.int a1), some (.int a2), none, none], [])) (h1 := zHp I) (fun n => rfl) (fun hc => ?_) (fun hc => ?_)
    · rw [if_pos hc] at hf
      cases hf
      exact zEv_ret 2 (fun n => rfl)
    · rw [if_neg hc] at hf
      refine zEv_if 3 (c := a0 = a1) (f1 := (19, [some (.ref 73), some (.int a0), some (.int a1), some (.int a2), none, none], [])) (f2 := (21, [some (.ref 73), some (.int a0), some (.int a1), some (.int a2), none, none], [])) (h1 := zHp I) (fun n => rfl) (fun hc => ?_) (fun hc => ?_)
      · rw [if_pos hc] at hf
        cases hf
        exact zEv_ret 2 (fun n => rfl)
      · rw [if_neg hc] at hf
        obtain ⟨hc, hf⟩ := zGd_inv hf
        refine zEv_gd 7 (c := zIn a0 10) (f1 := (32, [some (.ref 73), some (.int a0), some (.int a1), some (.int a2), none, none], [.int (I 74 (Int32.toNatClampNeg a0)), .int a0, .ref 74])) (h1 := zHp I) (fun n => rfl) hc ?_
        obtain ⟨x467, hx, hf⟩ := Option.bind_eq_some_iff.mp hf
        refine zEv_call 3 (N := 122) (vs := [.int (I 74 (Int32.toNatClampNeg a0)), .int a1, .int a2]) (v1 := some (.int x467)) (h1 := zHp I) (L := [some (.ref 73), some (.int a0), some (.int a1), some (.int a2), none, none]) (rest := [.int a0, .ref 74]) (pc := 37) (fun n => rfl) (s_Mo_with hx d (by omega)) rfl rfl ?_
        show zEv _ _ _ (37, [some (.ref 73), some (.int a0), some (.int a1), some (.int a2), none, none], [.int x467, .int a0, .ref 74]) _ _ _
        obtain ⟨hc, hf⟩ := zGd_inv hf
        refine zEv_gd 1 (c := zIn a0 10) (f1 := (38, [some (.ref 73), some (.int a0), some (.int a1), some (.int a2), none, none], [])) (h1 := zHp (zUp I 74 (Int32.toNatClampNeg a0) x467)) (fun n => rfl) hc ?_
        obtain ⟨hc, hf⟩ := zGd_inv hf
        refine zEv_gd 7 (c := zIn a1 10) (f1 := (49, [some (.ref 73), some (.int a0), some (.int a1), some (.int a2), none, none], [.int ((zUp I 74 (Int32.toNatClampNeg a0) x467) 74 (Int32.toNatClampNeg a1)), .int a1, .ref 74])) (h1 := zHp (zUp I 74 (Int32.toNatClampNeg a0) x467)) (fun n => rfl) hc ?_
        obtain ⟨x468, hx, hf⟩ := Option.bind_eq_some_iff.mp hf
        refine zEv_call 3 (N := 122) (vs := [.int ((zUp I 74 (Int32.toNatClampNeg a0) x467) 74 (Int32.toNatClampNeg a1)), .int a0, .int a2]) (v1 := some (.int x468)) (h1 := zHp (zUp I 74 (Int32.toNatClampNeg a0) x467)) (L := [some (.ref 73), some (.int a0), some (.int a1), some (.int a2), none, none]) (rest := [.int a1, .ref 74]) (pc := 54) (fun n => rfl) (s_Mo_with hx d (by omega)) rfl rfl ?_
        show zEv _ _ _ (54, [some (.ref 73), some (.int a0), some (.int a1), some (.int a2), none, none], [.int x468, .int a1, .ref 74]) _ _ _
        obtain ⟨hc, hf⟩ := zGd_inv hf
        refine zEv_gd 1 (c := zIn a1 10) (f1 := (55, [some (.ref 73), some (.int a0), some (.int a1), some (.int a2), none, none], [])) (h1 := zHp (zUp (zUp I 74 (Int32.toNatClampNeg a0) x467) 74 (Int32.toNatClampNeg a1) x468)) (fun n => rfl) hc ?_
        obtain ⟨x471, hx, hf⟩ := Option.bind_eq_some_iff.mp hf
        refine zEv_go 4 (f1 := (61, [some (.ref 73), some (.int a0), some (.int a1), some (.int a2), some (.int 0), some (.int 0)], [])) (h1 := zHp (zUp (zUp I 74 (Int32.toNatClampNeg a0) x467) 74 (Int32.toNatClampNeg a1) x468)) (fun n => rfl) ?_
        refine zEv_weak (L := [some (.ref 73), none, none, none, some (.int 0), some (.int 0)]) (by exact ⟨rfl, ⟨rfl, ⟨rfl, ⟨rfl, ⟨rfl, ⟨rfl, trivial⟩⟩⟩⟩⟩⟩) (s_Mo_way_L61 (d + 1) (by omega) n hx ?_)
        cases hf
        exact zEv_ret 4 (fun n => rfl)
def Mo_isOne  (a0 : Int32) (I : zI) : Option (Int32) :=
  (Mo_in (Int32.toInt64 a0) 0 7 I).bind fun x472 =>
  if x472 = 0 ∨ x472 = 1 then some x472 else none
theorem s_Mo_isOne  {a0 : Int32} {I : zI} {r : Int32} (hf : Mo_isOne a0 I = some r) (d : Nat) (hd : 1 ≤ d) : zCall d 119 [.int a0] (zHp I) (some (.int r)) (zHp I) := by
  obtain ⟨d, rfl⟩ : ∃ e, d = e + 1 := ⟨d - 1, by omega⟩
  rw [Mo_isOne] at hf
  show zEv _ _ _ (0, [some (.int a0)], []) _ _ _
  obtain ⟨x472, hx, hf⟩ := Option.bind_eq_some_iff.mp hf
  refine zEv_call 5 (N := 117) (vs := [.long (Int32.toInt64 a0), .long 0, .long 7]) (v1 := some (.int x472)) (h1 := zHp I) (L := [some (.int a0)]) (rest := []) (pc := 9) (fun n => rfl) (s_Mo_in hx d (by omega)) rfl rfl ?_
  show zEv _ _ _ (9, [some (.int a0)], [.int x472]) _ _ _
  obtain ⟨hc, hf⟩ := zGd_inv hf
  cases hf
  exact zEv_rt hc 1 (fun n => rfl)
def Mo_stand  (a0 : Int32) (a1 : Int32) (I : zI) : Option (Int32 × zI) :=
  (Mo_isOne a0 I).bind fun x473 =>
  if x473 = 0 then
    some ((-1), I)
  else
    (Mo_isBench a1 I).bind fun x474 =>
    if x474 = 0 then
      some ((-1), I)
    else
      if zIn a0 8 then
        if zIn a0 8 then
          some ((I 75 (Int32.toNatClampNeg a0)), (zUp I 75 (Int32.toNatClampNeg a0) a1))
        else none
      else none
theorem s_Mo_stand  {a0 : Int32} {a1 : Int32} {I : zI} {r : Int32} {I' : zI} (hf : Mo_stand a0 a1 I = some (r, I')) (d : Nat) (hd : 2 ≤ d) : zCall d 125 [.ref 73, .int a0, .int a1] (zHp I) (some (.int r)) (zHp I') := by
  obtain ⟨d, rfl⟩ : ∃ e, d = e + 1 := ⟨d - 1, by omega⟩
  rw [Mo_stand] at hf
  show zEv _ _ _ (0, [some (.ref 73), some (.int a0), some (.int a1), none], []) _ _ _
  obtain ⟨x473, hx, hf⟩ := Option.bind_eq_some_iff.mp hf
  refine zEv_call 2 (N := 119) (vs := [.int a0]) (v1 := some (.int x473)) (h1 := zHp I) (L := [some (.ref 73), some (.int a0), some (.int a1), none]) (rest := []) (pc := 4) (fun n => rfl) (s_Mo_isOne hx d (by omega)) rfl rfl ?_
  show zEv _ _ _ (4, [some (.ref 73), some (.int a0), some (.int a1), none], [.int x473]) _ _ _
  refine zEv_if 1 (c := x473 = 0) (f1 := (14, [some (.ref 73), some (.int a0), some (.int a1), none], [])) (f2 := (7, [some (.ref 73), some (.int a0), some (.int a1), none], [])) (h1 := zHp I) (fun n => rfl) (fun hc => ?_) (fun hc => ?_)
  · rw [if_pos hc] at hf
    cases hf
    exact zEv_ret 2 (fun n => rfl)
  · rw [if_neg hc] at hf
    obtain ⟨x474, hx, hf⟩ := Option.bind_eq_some_iff.mp hf
    refine zEv_call 2 (N := 118) (vs := [.int a1]) (v1 := some (.int x474)) (h1 := zHp I) (L := [some (.ref 73), some (.int a0), some (.int a1), none]) (rest := []) (pc := 11) (fun n => rfl) (s_Mo_isBench hx d (by omega)) rfl rfl ?_
    show zEv _ _ _ (11, [some (.ref 73), some (.int a0), some (.int a1), none], [.int x474]) _ _ _
    refine zEv_if 1 (c := x474 = 0) (f1 := (14, [some (.ref 73), some (.int a0), some (.int a1), none], [])) (f2 := (16, [some (.ref 73), some (.int a0), some (.int a1), none], [])) (h1 := zHp I) (fun n => rfl) (fun hc => ?_) (fun hc => ?_)
    · rw [if_pos hc] at hf
      cases hf
      exact zEv_ret 2 (fun n => rfl)
    · rw [if_neg hc] at hf
      obtain ⟨hc, hf⟩ := zGd_inv hf
      refine zEv_gd 4 (c := zIn a0 8) (f1 := (22, [some (.ref 73), some (.int a0), some (.int a1), none], [.int (I 75 (Int32.toNatClampNeg a0))])) (h1 := zHp I) (fun n => rfl) hc ?_
      obtain ⟨hc, hf⟩ := zGd_inv hf
      refine zEv_gd 6 (c := zIn a0 8) (f1 := (30, [some (.ref 73), some (.int a0), some (.int a1), some (.int (I 75 (Int32.toNatClampNeg a0)))], [])) (h1 := zHp (zUp I 75 (Int32.toNatClampNeg a0) a1)) (fun n => rfl) hc ?_
      cases hf
      exact zEv_ret 2 (fun n => rfl)
def Mo_isMemory  (a0 : Int32) (I : zI) : Option (Int32) :=
  (Mo_in (Int32.toInt64 a0) 0 11 I).bind fun x475 =>
  if x475 = 0 ∨ x475 = 1 then some x475 else none
theorem s_Mo_isMemory  {a0 : Int32} {I : zI} {r : Int32} (hf : Mo_isMemory a0 I = some r) (d : Nat) (hd : 1 ≤ d) : zCall d 120 [.int a0] (zHp I) (some (.int r)) (zHp I) := by
  obtain ⟨d, rfl⟩ : ∃ e, d = e + 1 := ⟨d - 1, by omega⟩
  rw [Mo_isMemory] at hf
  show zEv _ _ _ (0, [some (.int a0)], []) _ _ _
  obtain ⟨x475, hx, hf⟩ := Option.bind_eq_some_iff.mp hf
  refine zEv_call 5 (N := 117) (vs := [.long (Int32.toInt64 a0), .long 0, .long 11]) (v1 := some (.int x475)) (h1 := zHp I) (L := [some (.int a0)]) (rest := []) (pc := 9) (fun n => rfl) (s_Mo_in hx d (by omega)) rfl rfl ?_
  show zEv _ _ _ (9, [some (.int a0)], [.int x475]) _ _ _
  obtain ⟨hc, hf⟩ := zGd_inv hf
  cases hf
  exact zEv_rt hc 1 (fun n => rfl)
def Mo_whereIs_L35 : Nat → Int32 → Int32 → Int32 → zI → Option (Int32)
  | 0, _, _, _, _ => none
  | n + 1, v1, v2, v3, I =>
    if 10 ≤ v3 then
      some v2
    else
      if zIn v3 10 then
        (
          if (I 77 (Int32.toNatClampNeg v3)) = v1 then
            some (10 + v3)
          else
            some v2 : Option (Int32)).bind fun x482 =>
        Mo_whereIs_L35 n v1 x482 (v3 + 1) I
      else none
theorem s_Mo_whereIs_L35 (d : Nat) (hd : 0 ≤ d) : ∀ (n : Nat) {v1 : Int32} {v2 : Int32} {v3 : Int32} {I : zI} {y2 : Int32} {v : Option Value} {h' : zH}, Mo_whereIs_L35 n v1 v2 v3 I = some y2 → zEv none d 126 (66, [some (.ref 73), none, some (.int y2), none], []) (zHp I) v h' → zEv none d 126 (35, [some (.ref 73), some (.int v1), some (.int v2), some (.int v3)], []) (zHp I) v h' := by
  intro n
  induction n with
  | zero => intros; rename_i hf _; cases hf
  | succ n ih =>
    intro v1 v2 v3 I y2 v h' hf kk
    rw [Mo_whereIs_L35] at hf
    refine zEv_if 3 (c := 10 ≤ v3) (f1 := (66, [some (.ref 73), some (.int v1), some (.int v2), some (.int v3)], [])) (f2 := (41, [some (.ref 73), some (.int v1), some (.int v2), some (.int v3)], [])) (h1 := zHp I) (fun n => rfl) (fun hc => ?_) (fun hc => ?_)
    · rw [if_pos hc] at hf
      obtain rfl := Option.some.inj hf
      exact zEv_weak (L := [some (.ref 73), none, some (.int v2), none]) (by exact ⟨rfl, ⟨rfl, ⟨rfl, ⟨rfl, trivial⟩⟩⟩⟩) kk
    · rw [if_neg hc] at hf
      obtain ⟨hc, hf⟩ := zGd_inv hf
      refine zEv_gd 4 (c := zIn v3 10) (f1 := (47, [some (.ref 73), some (.int v1), some (.int v2), some (.int v3)], [.int (I 77 (Int32.toNatClampNeg v3))])) (h1 := zHp I) (fun n => rfl) hc ?_
      obtain ⟨x482, hm_m481, hf⟩ := Option.bind_eq_some_iff.mp hf
      have hJ_m481 : zEv none (d) 126 (59, [some (.ref 73), some (.int v1), none, some (.int v3)], [.int x482]) (zHp I) v h' := by
        refine zEv_go 3 (f1 := (35, [some (.ref 73), some (.int v1), some (.int x482), some (.int (v3 + 1))], [])) (h1 := zHp I) (fun n => rfl) ?_
        refine zEv_weak (L := [some (.ref 73), some (.int v1), some (.int x482), some (.int (v3 + 1))]) (by exact ⟨rfl, ⟨rfl, ⟨rfl, ⟨rfl, trivial⟩⟩⟩⟩) ?_
        exact ih hf kk
      clear hf
      refine zEv_if 2 (c := (I 77 (Int32.toNatClampNeg v3)) = v1) (f1 := (51, [some (.ref 73), some (.int v1), some (.int v2), some (.int v3)], [])) (f2 := (58, [some (.ref 73), some (.int v1), some (.int v2), some (.int v3)], [])) (h1 := zHp I) (fun n => rfl) (fun hc => ?_) (fun hc => ?_)
      · rw [if_pos hc] at hm_m481
        obtain rfl := Option.some.inj hm_m481
        refine zEv_go 4 (f1 := (59, [some (.ref 73), some (.int v1), some (.int v2), some (.int v3)], [.int (10 + v3)])) (h1 := zHp I) (fun n => rfl) ?_
        exact zEv_weak (L := [some (.ref 73), some (.int v1), none, some (.int v3)]) (by exact ⟨rfl, ⟨rfl, ⟨rfl, ⟨rfl, trivial⟩⟩⟩⟩) hJ_m481
      · rw [if_neg hc] at hm_m481
        obtain rfl := Option.some.inj hm_m481
        refine zEv_go 1 (f1 := (59, [some (.ref 73), some (.int v1), some (.int v2), some (.int v3)], [.int v2])) (h1 := zHp I) (fun n => rfl) ?_
        exact zEv_weak (L := [some (.ref 73), some (.int v1), none, some (.int v3)]) (by exact ⟨rfl, ⟨rfl, ⟨rfl, ⟨rfl, trivial⟩⟩⟩⟩) hJ_m481
def Mo_whereIs_L5 : Nat → Int32 → Int32 → Int32 → zI → Option (Int32)
  | 0, _, _, _, _ => none
  | n + 1, v1, v2, v3, I =>
    if 8 ≤ v3 then
      some v2
    else
      if zIn v3 8 then
        (
          if (I 76 (Int32.toNatClampNeg v3)) = v1 then
            some v3
          else
            some v2 : Option (Int32)).bind fun x479 =>
        Mo_whereIs_L5 n v1 x479 (v3 + 1) I
      else none
theorem s_Mo_whereIs_L5 (d : Nat) (hd : 0 ≤ d) : ∀ (n : Nat) {v1 : Int32} {v2 : Int32} {v3 : Int32} {I : zI} {y2 : Int32} {v : Option Value} {h' : zH}, Mo_whereIs_L5 n v1 v2 v3 I = some y2 → zEv none d 126 (33, [some (.ref 73), some (.int v1), some (.int y2), none], []) (zHp I) v h' → zEv none d 126 (5, [some (.ref 73), some (.int v1), some (.int v2), some (.int v3)], []) (zHp I) v h' := by
  intro n
  induction n with
  | zero => intros; rename_i hf _; cases hf
  | succ n ih =>
    intro v1 v2 v3 I y2 v h' hf kk
    rw [Mo_whereIs_L5] at hf
    refine zEv_if 3 (c := 8 ≤ v3) (f1 := (33, [some (.ref 73), some (.int v1), some (.int v2), some (.int v3)], [])) (f2 := (11, [some (.ref 73), some (.int v1), some (.int v2), some (.int v3)], [])) (h1 := zHp I) (fun n => rfl) (fun hc => ?_) (fun hc => ?_)
    · rw [if_pos hc] at hf
      obtain rfl := Option.some.inj hf
      exact zEv_weak (L := [some (.ref 73), some (.int v1), some (.int v2), none]) (by exact ⟨rfl, ⟨rfl, ⟨rfl, ⟨rfl, trivial⟩⟩⟩⟩) kk
    · rw [if_neg hc] at hf
      obtain ⟨hc, hf⟩ := zGd_inv hf
      refine zEv_gd 4 (c := zIn v3 8) (f1 := (17, [some (.ref 73), some (.int v1), some (.int v2), some (.int v3)], [.int (I 76 (Int32.toNatClampNeg v3))])) (h1 := zHp I) (fun n => rfl) hc ?_
      obtain ⟨x479, hm_m478, hf⟩ := Option.bind_eq_some_iff.mp hf
      have hJ_m478 : zEv none (d) 126 (26, [some (.ref 73), some (.int v1), none, some (.int v3)], [.int x479]) (zHp I) v h' := by
        refine zEv_go 3 (f1 := (5, [some (.ref 73), some (.int v1), some (.int x479), some (.int (v3 + 1))], [])) (h1 := zHp I) (fun n => rfl) ?_
        refine zEv_weak (L := [some (.ref 73), some (.int v1), some (.int x479), some (.int (v3 + 1))]) (by exact ⟨rfl, ⟨rfl, ⟨rfl, ⟨rfl, trivial⟩⟩⟩⟩) ?_
        exact ih hf kk
      clear hf
      refine zEv_if 2 (c := (I 76 (Int32.toNatClampNeg v3)) = v1) (f1 := (21, [some (.ref 73), some (.int v1), some (.int v2), some (.int v3)], [])) (f2 := (25, [some (.ref 73), some (.int v1), some (.int v2), some (.int v3)], [])) (h1 := zHp I) (fun n => rfl) (fun hc => ?_) (fun hc => ?_)
      · rw [if_pos hc] at hm_m478
        obtain rfl := Option.some.inj hm_m478
        refine zEv_go 2 (f1 := (26, [some (.ref 73), some (.int v1), some (.int v2), some (.int v3)], [.int v3])) (h1 := zHp I) (fun n => rfl) ?_
        exact zEv_weak (L := [some (.ref 73), some (.int v1), none, some (.int v3)]) (by exact ⟨rfl, ⟨rfl, ⟨rfl, ⟨rfl, trivial⟩⟩⟩⟩) hJ_m478
      · rw [if_neg hc] at hm_m478
        obtain rfl := Option.some.inj hm_m478
        refine zEv_go 1 (f1 := (26, [some (.ref 73), some (.int v1), some (.int v2), some (.int v3)], [.int v2])) (h1 := zHp I) (fun n => rfl) ?_
        exact zEv_weak (L := [some (.ref 73), some (.int v1), none, some (.int v3)]) (by exact ⟨rfl, ⟨rfl, ⟨rfl, ⟨rfl, trivial⟩⟩⟩⟩) hJ_m478
def Mo_whereIs (n : Nat) (a0 : Int32) (I : zI) : Option (Int32) :=
  (Mo_whereIs_L5 n a0 (-6) 0 I).bind fun x480 =>
  (Mo_whereIs_L35 n a0 x480 0 I).bind fun x483 =>
  some x483
theorem s_Mo_whereIs {n : Nat} {a0 : Int32} {I : zI} {r : Int32} (hf : Mo_whereIs n a0 I = some r) (d : Nat) (hd : 0 ≤ d) : zCall d 126 [.ref 73, .int a0] (zHp I) (some (.int r)) (zHp I) := by
  rw [Mo_whereIs] at hf
  show zEv _ _ _ (0, [some (.ref 73), some (.int a0), none, none], []) _ _ _
  obtain ⟨x480, hx, hf⟩ := Option.bind_eq_some_iff.mp hf
  refine zEv_go 4 (f1 := (5, [some (.ref 73), some (.int a0), some (.int (-6)), some (.int 0)], [])) (h1 := zHp I) (fun n => rfl) ?_
  refine zEv_weak (L := [some (.ref 73), some (.int a0), some (.int (-6)), some (.int 0)]) (by exact ⟨rfl, ⟨rfl, ⟨rfl, ⟨rfl, trivial⟩⟩⟩⟩) (s_Mo_whereIs_L5 (d) (by omega) n hx ?_)
  obtain ⟨x483, hx, hf⟩ := Option.bind_eq_some_iff.mp hf
  refine zEv_go 2 (f1 := (35, [some (.ref 73), some (.int a0), some (.int x480), some (.int 0)], [])) (h1 := zHp I) (fun n => rfl) ?_
  refine zEv_weak (L := [some (.ref 73), some (.int a0), some (.int x480), some (.int 0)]) (by exact ⟨rfl, ⟨rfl, ⟨rfl, ⟨rfl, trivial⟩⟩⟩⟩) (s_Mo_whereIs_L35 (d) (by omega) n hx ?_)
  cases hf
  exact zEv_ret 2 (fun n => rfl)
def Mo_lose (n : Nat) (a0 : Int32) (I : zI) : Option (Int32 × zI) :=
  (Mo_whereIs n a0 I).bind fun x484 =>
  (
    if x484 < 10 then
      if x484 < 0 then
        some I
      else
        if zIn x484 8 then
          some (zUp I 76 (Int32.toNatClampNeg x484) (-6))
        else none
    else
      if zIn (x484 - 10) 10 then
        if zIn (x484 - 10) 10 then
          some (zUp (zUp I 77 (Int32.toNatClampNeg (x484 - 10)) (-6)) 78 (Int32.toNatClampNeg (x484 - 10)) (-6))
        else none
      else none : Option (zI)).bind fun I486 =>
  some (x484, I486)
theorem s_Mo_lose {n : Nat} {a0 : Int32} {I : zI} {r : Int32} {I' : zI} (hf : Mo_lose n a0 I = some (r, I')) (d : Nat) (hd : 1 ≤ d) : zCall d 127 [.ref 73, .int a0] (zHp I) (some (.int r)) (zHp I') := by
  obtain ⟨d, rfl⟩ : ∃ e, d = e + 1 := ⟨d - 1, by omega⟩
  rw [Mo_lose] at hf
  show zEv _ _ _ (0, [some (.ref 73), some (.int a0), none], []) _ _ _
  obtain ⟨x484, hx, hf⟩ := Option.bind_eq_some_iff.mp hf
  refine zEv_call 3 (N := 126) (vs := [.ref 73, .int a0]) (v1 := some (.int x484)) (h1 := zHp I) (L := [some (.ref 73), some (.int a0), none]) (rest := []) (pc := 5) (fun n => rfl) (s_Mo_whereIs hx d (by omega)) rfl rfl ?_
  show zEv _ _ _ (5, [some (.ref 73), some (.int a0), none], [.int x484]) _ _ _
  obtain ⟨I486, hm_m485, hf⟩ := Option.bind_eq_some_iff.mp hf
  have hJ_m485 : zEv none (d + 1) 127 (49, [some (.ref 73), none, some (.int x484)], []) (zHp I486) (some (.int r)) (zHp I') := by
    cases hf
    exact zEv_ret 2 (fun n => rfl)
  clear hf
  refine zEv_if 4 (c := x484 < 10) (f1 := (37, [some (.ref 73), some (.int a0), some (.int x484)], [])) (f2 := (12, [some (.ref 73), some (.int a0), some (.int x484)], [])) (h1 := zHp I) (fun n => rfl) (fun hc => ?_) (fun hc => ?_)
  · rw [if_pos hc] at hm_m485
    refine zEv_if 2 (c := x484 < 0) (f1 := (49, [some (.ref 73), some (.int a0), some (.int x484)], [])) (f2 := (41, [some (.ref 73), some (.int a0), some (.int x484)], [])) (h1 := zHp I) (fun n => rfl) (fun hc => ?_) (fun hc => ?_)
    · rw [if_pos hc] at hm_m485
      obtain rfl := Option.some.inj hm_m485
      exact zEv_weak (L := [some (.ref 73), none, some (.int x484)]) (by exact ⟨rfl, ⟨rfl, ⟨rfl, trivial⟩⟩⟩) hJ_m485
    · rw [if_neg hc] at hm_m485
      obtain ⟨hc, hm_m485⟩ := zGd_inv hm_m485
      refine zEv_gd 5 (c := zIn x484 8) (f1 := (49, [some (.ref 73), some (.int a0), some (.int x484)], [])) (h1 := zHp (zUp I 76 (Int32.toNatClampNeg x484) (-6))) (fun n => rfl) hc ?_
      obtain rfl := Option.some.inj hm_m485
      exact zEv_weak (L := [some (.ref 73), none, some (.int x484)]) (by exact ⟨rfl, ⟨rfl, ⟨rfl, trivial⟩⟩⟩) hJ_m485
  · rw [if_neg hc] at hm_m485
    obtain ⟨hc, hm_m485⟩ := zGd_inv hm_m485
    refine zEv_gd 7 (c := zIn (x484 - 10) 10) (f1 := (23, [some (.ref 73), some (.int a0), some (.int x484)], [])) (h1 := zHp (zUp I 77 (Int32.toNatClampNeg (x484 - 10)) (-6))) (fun n => rfl) hc ?_
    obtain ⟨hc, hm_m485⟩ := zGd_inv hm_m485
    refine zEv_gd 7 (c := zIn (x484 - 10) 10) (f1 := (34, [some (.ref 73), some (.int a0), some (.int x484)], [])) (h1 := zHp (zUp (zUp I 77 (Int32.toNatClampNeg (x484 - 10)) (-6)) 78 (Int32.toNatClampNeg (x484 - 10)) (-6))) (fun n => rfl) hc ?_
    obtain rfl := Option.some.inj hm_m485
    refine zEv_go 1 (f1 := (49, [some (.ref 73), some (.int a0), some (.int x484)], [])) (h1 := zHp (zUp (zUp I 77 (Int32.toNatClampNeg (x484 - 10)) (-6)) 78 (Int32.toNatClampNeg (x484 - 10)) (-6))) (fun n => rfl) ?_
    exact zEv_weak (L := [some (.ref 73), none, some (.int x484)]) (by exact ⟨rfl, ⟨rfl, ⟨rfl, trivial⟩⟩⟩) hJ_m485
def Mo_give (n : Nat) (a0 : Int32) (a1 : Int32) (I : zI) : Option (Int32 × zI) :=
  (Mo_isMemory a0 I).bind fun x476 =>
  if x476 = 0 then
    some ((-1), I)
  else
    (Mo_isOne a1 I).bind fun x477 =>
    if x477 = 0 then
      some ((-1), I)
    else
      (Mo_lose n a0 I).bind fun (x487, I488) =>
      if zIn a1 8 then
        some (x487, (zUp I488 76 (Int32.toNatClampNeg a1) a0))
      else none
theorem s_Mo_give {n : Nat} {a0 : Int32} {a1 : Int32} {I : zI} {r : Int32} {I' : zI} (hf : Mo_give n a0 a1 I = some (r, I')) (d : Nat) (hd : 2 ≤ d) : zCall d 128 [.ref 73, .int a0, .int a1] (zHp I) (some (.int r)) (zHp I') := by
  obtain ⟨d, rfl⟩ : ∃ e, d = e + 1 := ⟨d - 1, by omega⟩
  rw [Mo_give] at hf
  show zEv _ _ _ (0, [some (.ref 73), some (.int a0), some (.int a1), none], []) _ _ _
  obtain ⟨x476, hx, hf⟩ := Option.bind_eq_some_iff.mp hf
  refine zEv_call 2 (N := 120) (vs := [.int a0]) (v1 := some (.int x476)) (h1 := zHp I) (L := [some (.ref 73), some (.int a0), some (.int a1), none]) (rest := []) (pc := 4) (fun n => rfl) (s_Mo_isMemory hx d (by omega)) rfl rfl ?_
  show zEv _ _ _ (4, [some (.ref 73), some (.int a0), some (.int a1), none], [.int x476]) _ _ _
  refine zEv_if 1 (c := x476 = 0) (f1 := (14, [some (.ref 73), some (.int a0), some (.int a1), none], [])) (f2 := (7, [some (.ref 73), some (.int a0), some (.int a1), none], [])) (h1 := zHp I) (fun n => rfl) (fun hc => ?_) (fun hc => ?_)
  · rw [if_pos hc] at hf
    cases hf
    exact zEv_ret 2 (fun n => rfl)
  · rw [if_neg hc] at hf
    obtain ⟨x477, hx, hf⟩ := Option.bind_eq_some_iff.mp hf
    refine zEv_call 2 (N := 119) (vs := [.int a1]) (v1 := some (.int x477)) (h1 := zHp I) (L := [some (.ref 73), some (.int a0), some (.int a1), none]) (rest := []) (pc := 11) (fun n => rfl) (s_Mo_isOne hx d (by omega)) rfl rfl ?_
    show zEv _ _ _ (11, [some (.ref 73), some (.int a0), some (.int a1), none], [.int x477]) _ _ _
    refine zEv_if 1 (c := x477 = 0) (f1 := (14, [some (.ref 73), some (.int a0), some (.int a1), none], [])) (f2 := (16, [some (.ref 73), some (.int a0), some (.int a1), none], [])) (h1 := zHp I) (fun n => rfl) (fun hc => ?_) (fun hc => ?_)
    · rw [if_pos hc] at hf
      cases hf
      exact zEv_ret 2 (fun n => rfl)
    · rw [if_neg hc] at hf
      obtain ⟨⟨x487, I488⟩, hx, hf⟩ := Option.bind_eq_some_iff.mp hf
      dsimp only at hf
      refine zEv_call 3 (N := 127) (vs := [.ref 73, .int a0]) (v1 := some (.int x487)) (h1 := zHp I488) (L := [some (.ref 73), some (.int a0), some (.int a1), none]) (rest := []) (pc := 21) (fun n => rfl) (s_Mo_lose hx d (by omega)) rfl rfl ?_
      show zEv _ _ _ (21, [some (.ref 73), some (.int a0), some (.int a1), none], [.int x487]) _ _ _
      obtain ⟨hc, hf⟩ := zGd_inv hf
      refine zEv_gd 6 (c := zIn a1 8) (f1 := (29, [some (.ref 73), some (.int a0), some (.int a1), some (.int x487)], [])) (h1 := zHp (zUp I488 76 (Int32.toNatClampNeg a1) a0)) (fun n => rfl) hc ?_
      cases hf
      exact zEv_ret 2 (fun n => rfl)
def Mo_lay (n : Nat) (a0 : Int32) (a1 : Int32) (a2 : Int32) (I : zI) : Option (Int32 × zI) :=
  (Mo_isMemory a0 I).bind fun x489 =>
  if x489 = 0 then
    some ((-1), I)
  else
    (Mo_isBench a1 I).bind fun x490 =>
    if x490 = 0 then
      some ((-1), I)
    else
      (Mo_in (Int32.toInt64 a2) 1 9 I).bind fun x491 =>
      if x491 = 0 then
        some ((-2), I)
      else
        (Mo_lose n a0 I).bind fun (x492, I493) =>
        if zIn a1 10 then
          if zIn a1 10 then
            some (x492, (zUp (zUp I493 77 (Int32.toNatClampNeg a1) a0) 78 (Int32.toNatClampNeg a1) a2))
          else none
        else none
theorem s_Mo_lay {n : Nat} {a0 : Int32} {a1 : Int32} {a2 : Int32} {I : zI} {r : Int32} {I' : zI} (hf : Mo_lay n a0 a1 a2 I = some (r, I')) (d : Nat) (hd : 2 ≤ d) : zCall d 129 [.ref 73, .int a0, .int a1, .int a2] (zHp I) (some (.int r)) (zHp I') := by
  obtain ⟨d, rfl⟩ : ∃ e, d = e + 1 := ⟨d - 1, by omega⟩
  rw [Mo_lay] at hf
  show zEv _ _ _ (0, [some (.ref 73), some (.int a0), some (.int a1), some (.int a2), none], []) _ _ _
  obtain ⟨x489, hx, hf⟩ := Option.bind_eq_some_iff.mp hf
  refine zEv_call 2 (N := 120) (vs := [.int a0]) (v1 := some (.int x489)) (h1 := zHp I) (L := [some (.ref 73), some (.int a0), some (.int a1), some (.int a2), none]) (rest := []) (pc := 4) (fun n => rfl) (s_Mo_isMemory hx d (by omega)) rfl rfl ?_
  show zEv _ _ _ (4, [some (.ref 73), some (.int a0), some (.int a1), some (.int a2), none], [.int x489]) _ _ _
  refine zEv_if 1 (c := x489 = 0) (f1 := (14, [some (.ref 73), some (.int a0), some (.int a1), some (.int a2), none], [])) (f2 := (7, [some (.ref 73), some (.int a0), some (.int a1), some (.int a2), none], [])) (h1 := zHp I) (fun n => rfl) (fun hc => ?_) (fun hc => ?_)
  · rw [if_pos hc] at hf
    cases hf
    exact zEv_ret 2 (fun n => rfl)
  · rw [if_neg hc] at hf
    obtain ⟨x490, hx, hf⟩ := Option.bind_eq_some_iff.mp hf
    refine zEv_call 2 (N := 118) (vs := [.int a1]) (v1 := some (.int x490)) (h1 := zHp I) (L := [some (.ref 73), some (.int a0), some (.int a1), some (.int a2), none]) (rest := []) (pc := 11) (fun n => rfl) (s_Mo_isBench hx d (by omega)) rfl rfl ?_
    show zEv _ _ _ (11, [some (.ref 73), some (.int a0), some (.int a1), some (.int a2), none], [.int x490]) _ _ _
    refine zEv_if 1 (c := x490 = 0) (f1 := (14, [some (.ref 73), some (.int a0), some (.int a1), some (.int a2), none], [])) (f2 := (16, [some (.ref 73), some (.int a0), some (.int a1), some (.int a2), none], [])) (h1 := zHp I) (fun n => rfl) (fun hc => ?_) (fun hc => ?_)
    · rw [if_pos hc] at hf
      cases hf
      exact zEv_ret 2 (fun n => rfl)
    · rw [if_neg hc] at hf
      obtain ⟨x491, hx, hf⟩ := Option.bind_eq_some_iff.mp hf
      refine zEv_call 5 (N := 117) (vs := [.long (Int32.toInt64 a2), .long 1, .long 9]) (v1 := some (.int x491)) (h1 := zHp I) (L := [some (.ref 73), some (.int a0), some (.int a1), some (.int a2), none]) (rest := []) (pc := 25) (fun n => rfl) (s_Mo_in hx d (by omega)) rfl rfl ?_
      show zEv _ _ _ (25, [some (.ref 73), some (.int a0), some (.int a1), some (.int a2), none], [.int x491]) _ _ _
      refine zEv_if 1 (c := x491 = 0) (f1 := (28, [some (.ref 73), some (.int a0), some (.int a1), some (.int a2), none], [])) (f2 := (31, [some (.ref 73), some (.int a0), some (.int a1), some (.int a2), none], [])) (h1 := zHp I) (fun n => rfl) (fun hc => ?_) (fun hc => ?_)
      · rw [if_pos hc] at hf
        cases hf
        exact zEv_ret 2 (fun n => rfl)
      · rw [if_neg hc] at hf
        obtain ⟨⟨x492, I493⟩, hx, hf⟩ := Option.bind_eq_some_iff.mp hf
        dsimp only at hf
        refine zEv_call 3 (N := 127) (vs := [.ref 73, .int a0]) (v1 := some (.int x492)) (h1 := zHp I493) (L := [some (.ref 73), some (.int a0), some (.int a1), some (.int a2), none]) (rest := []) (pc := 36) (fun n => rfl) (s_Mo_lose hx d (by omega)) rfl rfl ?_
        show zEv _ _ _ (36, [some (.ref 73), some (.int a0), some (.int a1), some (.int a2), none], [.int x492]) _ _ _
        obtain ⟨hc, hf⟩ := zGd_inv hf
        refine zEv_gd 6 (c := zIn a1 10) (f1 := (45, [some (.ref 73), some (.int a0), some (.int a1), some (.int a2), some (.int x492)], [])) (h1 := zHp (zUp I493 77 (Int32.toNatClampNeg a1) a0)) (fun n => rfl) hc ?_
        obtain ⟨hc, hf⟩ := zGd_inv hf
        refine zEv_gd 5 (c := zIn a1 10) (f1 := (52, [some (.ref 73), some (.int a0), some (.int a1), some (.int a2), some (.int x492)], [])) (h1 := zHp (zUp (zUp I493 77 (Int32.toNatClampNeg a1) a0) 78 (Int32.toNatClampNeg a1) a2)) (fun n => rfl) hc ?_
        cases hf
        exact zEv_ret 2 (fun n => rfl)
def Mo_forget (n : Nat) (a0 : Int32) (I : zI) : Option (Int32 × zI) :=
  (Mo_isMemory a0 I).bind fun x494 =>
  if x494 = 0 then
    some ((-1), I)
  else
    (Mo_lose n a0 I).bind fun (x495, I496) =>
    some (x495, I496)
theorem s_Mo_forget {n : Nat} {a0 : Int32} {I : zI} {r : Int32} {I' : zI} (hf : Mo_forget n a0 I = some (r, I')) (d : Nat) (hd : 2 ≤ d) : zCall d 130 [.ref 73, .int a0] (zHp I) (some (.int r)) (zHp I') := by
  obtain ⟨d, rfl⟩ : ∃ e, d = e + 1 := ⟨d - 1, by omega⟩
  rw [Mo_forget] at hf
  show zEv _ _ _ (0, [some (.ref 73), some (.int a0)], []) _ _ _
  obtain ⟨x494, hx, hf⟩ := Option.bind_eq_some_iff.mp hf
  refine zEv_call 2 (N := 120) (vs := [.int a0]) (v1 := some (.int x494)) (h1 := zHp I) (L := [some (.ref 73), some (.int a0)]) (rest := []) (pc := 4) (fun n => rfl) (s_Mo_isMemory hx d (by omega)) rfl rfl ?_
  show zEv _ _ _ (4, [some (.ref 73), some (.int a0)], [.int x494]) _ _ _
  refine zEv_if 1 (c := x494 = 0) (f1 := (15, [some (.ref 73), some (.int a0)], [])) (f2 := (7, [some (.ref 73), some (.int a0)], [])) (h1 := zHp I) (fun n => rfl) (fun hc => ?_) (fun hc => ?_)
  · rw [if_pos hc] at hf
    cases hf
    exact zEv_ret 2 (fun n => rfl)
  · rw [if_neg hc] at hf
    obtain ⟨⟨x495, I496⟩, hx, hf⟩ := Option.bind_eq_some_iff.mp hf
    dsimp only at hf
    refine zEv_call 3 (N := 127) (vs := [.ref 73, .int a0]) (v1 := some (.int x495)) (h1 := zHp I496) (L := [some (.ref 73), some (.int a0)]) (rest := []) (pc := 12) (fun n => rfl) (s_Mo_lose hx d (by omega)) rfl rfl ?_
    show zEv _ _ _ (12, [some (.ref 73), some (.int a0)], [.int x495]) _ _ _
    cases hf
    exact zEv_ret 2 (fun n => rfl)
def Mo_say  (a0 : Int32) (I : zI) : Option (Int32 × zI) :=
  (Mo_in (Int32.toInt64 a0) 33 126 I).bind fun x497 =>
  if x497 = 0 then
    some ((-2), I)
  else
    if (I 73 12) = 60 then
      some ((-4), I)
    else
      if zIn (I 73 12) 60 then
        some (((zUp (zUp I 82 (Int32.toNatClampNeg (I 73 12)) a0) 73 12 (((zUp I 82 (Int32.toNatClampNeg (I 73 12)) a0) 73 12) + 1)) 73 12), (zUp (zUp I 82 (Int32.toNatClampNeg (I 73 12)) a0) 73 12 (((zUp I 82 (Int32.toNatClampNeg (I 73 12)) a0) 73 12) + 1)))
      else none
theorem s_Mo_say  {a0 : Int32} {I : zI} {r : Int32} {I' : zI} (hf : Mo_say a0 I = some (r, I')) (d : Nat) (hd : 1 ≤ d) : zCall d 131 [.ref 73, .int a0] (zHp I) (some (.int r)) (zHp I') := by
  obtain ⟨d, rfl⟩ : ∃ e, d = e + 1 := ⟨d - 1, by omega⟩
  rw [Mo_say] at hf
  show zEv _ _ _ (0, [some (.ref 73), some (.int a0)], []) _ _ _
  obtain ⟨x497, hx, hf⟩ := Option.bind_eq_some_iff.mp hf
  refine zEv_call 5 (N := 117) (vs := [.long (Int32.toInt64 a0), .long 33, .long 126]) (v1 := some (.int x497)) (h1 := zHp I) (L := [some (.ref 73), some (.int a0)]) (rest := []) (pc := 11) (fun n => rfl) (s_Mo_in hx d (by omega)) rfl rfl ?_
  show zEv _ _ _ (11, [some (.ref 73), some (.int a0)], [.int x497]) _ _ _
  refine zEv_if 1 (c := x497 = 0) (f1 := (14, [some (.ref 73), some (.int a0)], [])) (f2 := (17, [some (.ref 73), some (.int a0)], [])) (h1 := zHp I) (fun n => rfl) (fun hc => ?_) (fun hc => ?_)
  · rw [if_pos hc] at hf
    cases hf
    exact zEv_ret 2 (fun n => rfl)
  · rw [if_neg hc] at hf
    refine zEv_if 4 (c := (I 73 12) = 60) (f1 := (26, [some (.ref 73), some (.int a0)], [])) (f2 := (29, [some (.ref 73), some (.int a0)], [])) (h1 := zHp I) (fun n => rfl) (fun hc => ?_) (fun hc => ?_)
    · rw [if_pos hc] at hf
      cases hf
      exact zEv_ret 2 (fun n => rfl)
    · rw [if_neg hc] at hf
      obtain ⟨hc, hf⟩ := zGd_inv hf
      refine zEv_gd 6 (c := zIn (I 73 12) 60) (f1 := (39, [some (.ref 73), some (.int a0)], [])) (h1 := zHp (zUp I 82 (Int32.toNatClampNeg (I 73 12)) a0)) (fun n => rfl) hc ?_
      cases hf
      exact zEv_ret 9 (fun n => rfl)
def Mo_wipe  (I : zI) : Option (Int32 × zI) :=
  some ((I 73 12), (zUp I 73 12 0))
theorem s_Mo_wipe  {I : zI} {r : Int32} {I' : zI} (hf : Mo_wipe I = some (r, I')) (d : Nat) (hd : 0 ≤ d) : zCall d 132 [.ref 73] (zHp I) (some (.int r)) (zHp I') := by
  rw [Mo_wipe] at hf
  show zEv _ _ _ (0, [some (.ref 73), none], []) _ _ _
  cases hf
  exact zEv_ret 8 (fun n => rfl)
def Mo_isName  (a0 : Int32) (I : zI) : Option (Int32) :=
  (Mo_in (Int32.toInt64 a0) 65 72 I).bind fun x498 =>
  if x498 = 0 ∨ x498 = 1 then some x498 else none
theorem s_Mo_isName  {a0 : Int32} {I : zI} {r : Int32} (hf : Mo_isName a0 I = some r) (d : Nat) (hd : 1 ≤ d) : zCall d 134 [.int a0] (zHp I) (some (.int r)) (zHp I) := by
  obtain ⟨d, rfl⟩ : ∃ e, d = e + 1 := ⟨d - 1, by omega⟩
  rw [Mo_isName] at hf
  show zEv _ _ _ (0, [some (.int a0)], []) _ _ _
  obtain ⟨x498, hx, hf⟩ := Option.bind_eq_some_iff.mp hf
  refine zEv_call 5 (N := 117) (vs := [.long (Int32.toInt64 a0), .long 65, .long 72]) (v1 := some (.int x498)) (h1 := zHp I) (L := [some (.int a0)]) (rest := []) (pc := 11) (fun n => rfl) (s_Mo_in hx d (by omega)) rfl rfl ?_
  show zEv _ _ _ (11, [some (.int a0)], [.int x498]) _ _ _
  obtain ⟨hc, hf⟩ := zGd_inv hf
  cases hf
  exact zEv_rt hc 1 (fun n => rfl)
def Mo_close  (a0 : Int32) (a1 : Int32) (I : zI) : Option (Int32 × zI) :=
  if zIn (I 73 16) 60 then
    if zIn ((zUp I 83 (Int32.toNatClampNeg (I 73 16)) a0) 73 16) 60 then
      some (0, (zUp (zUp (zUp I 83 (Int32.toNatClampNeg (I 73 16)) a0) 85 (Int32.toNatClampNeg ((zUp I 83 (Int32.toNatClampNeg (I 73 16)) a0) 73 16)) a1) 73 16 (((zUp (zUp I 83 (Int32.toNatClampNeg (I 73 16)) a0) 85 (Int32.toNatClampNeg ((zUp I 83 (Int32.toNatClampNeg (I 73 16)) a0) 73 16)) a1) 73 16) + 1)))
    else none
  else none
theorem s_Mo_close  {a0 : Int32} {a1 : Int32} {I : zI} {r : Int32} {I' : zI} (hf : Mo_close a0 a1 I = some (r, I')) (d : Nat) (hd : 0 ≤ d) : zCall d 133 [.ref 73, .int a0, .int a1] (zHp I) (some (.int r)) (zHp I') := by
  rw [Mo_close] at hf
  show zEv _ _ _ (0, [some (.ref 73), some (.int a0), some (.int a1)], []) _ _ _
  obtain ⟨hc, hf⟩ := zGd_inv hf
  refine zEv_gd 6 (c := zIn (I 73 16) 60) (f1 := (10, [some (.ref 73), some (.int a0), some (.int a1)], [])) (h1 := zHp (zUp I 83 (Int32.toNatClampNeg (I 73 16)) a0)) (fun n => rfl) hc ?_
  obtain ⟨hc, hf⟩ := zGd_inv hf
  refine zEv_gd 6 (c := zIn ((zUp I 83 (Int32.toNatClampNeg (I 73 16)) a0) 73 16) 60) (f1 := (20, [some (.ref 73), some (.int a0), some (.int a1)], [])) (h1 := zHp (zUp (zUp I 83 (Int32.toNatClampNeg (I 73 16)) a0) 85 (Int32.toNatClampNeg ((zUp I 83 (Int32.toNatClampNeg (I 73 16)) a0) 73 16)) a1)) (fun n => rfl) hc ?_
  cases hf
  exact zEv_ret 8 (fun n => rfl)
def Mo_begin  (a0 : Int32) (I : zI) : Option (Int32 × zI) :=
  (Mo_isName a0 I).bind fun x499 =>
  (
    if x499 = 0 then
      some 0
    else
      some (a0 - 65) : Option (Int32)).bind fun x501 =>
  if zIn (I 73 16) 60 then
    (Mo_isName a0 (zUp I 84 (Int32.toNatClampNeg (I 73 16)) x501)).bind fun x502 =>
    if x502 = 0 then
      if a0 = 35 then
        some (3, (zUp I 84 (Int32.toNatClampNeg (I 73 16)) x501))
      else
        if a0 = 46 then
          (Mo_close 5 0 (zUp I 84 (Int32.toNatClampNeg (I 73 16)) x501)).bind fun (x503, I504) =>
          some (x503, I504)
        else
          some ((-6), (zUp I 84 (Int32.toNatClampNeg (I 73 16)) x501))
    else
      some (1, (zUp I 84 (Int32.toNatClampNeg (I 73 16)) x501))
  else none
theorem s_Mo_begin  {a0 : Int32} {I : zI} {r : Int32} {I' : zI} (hf : Mo_begin a0 I = some (r, I')) (d : Nat) (hd : 2 ≤ d) : zCall d 135 [.ref 73, .int a0] (zHp I) (some (.int r)) (zHp I') := by
  obtain ⟨d, rfl⟩ : ∃ e, d = e + 1 := ⟨d - 1, by omega⟩
  rw [Mo_begin] at hf
  show zEv _ _ _ (0, [some (.ref 73), some (.int a0)], []) _ _ _
  obtain ⟨x499, hx, hf⟩ := Option.bind_eq_some_iff.mp hf
  refine zEv_call 6 (N := 134) (vs := [.int a0]) (v1 := some (.int x499)) (h1 := zHp I) (L := [some (.ref 73), some (.int a0)]) (rest := [.int (I 73 16), .ref 84]) (pc := 12) (fun n => rfl) (s_Mo_isName hx d (by omega)) rfl rfl ?_
  show zEv _ _ _ (12, [some (.ref 73), some (.int a0)], [.int x499, .int (I 73 16), .ref 84]) _ _ _
  obtain ⟨x501, hm_m500, hf⟩ := Option.bind_eq_some_iff.mp hf
  have hJ_m500 : zEv none (d + 1) 135 (23, [some (.ref 73), some (.int a0)], [.int x501, .int (I 73 16), .ref 84]) (zHp I) (some (.int r)) (zHp I') := by
    obtain ⟨hc, hf⟩ := zGd_inv hf
    refine zEv_gd 1 (c := zIn (I 73 16) 60) (f1 := (24, [some (.ref 73), some (.int a0)], [])) (h1 := zHp (zUp I 84 (Int32.toNatClampNeg (I 73 16)) x501)) (fun n => rfl) hc ?_
    obtain ⟨x502, hx, hf⟩ := Option.bind_eq_some_iff.mp hf
    refine zEv_call 2 (N := 134) (vs := [.int a0]) (v1 := some (.int x502)) (h1 := zHp (zUp I 84 (Int32.toNatClampNeg (I 73 16)) x501)) (L := [some (.ref 73), some (.int a0)]) (rest := []) (pc := 28) (fun n => rfl) (s_Mo_isName hx d (by omega)) rfl rfl ?_
    show zEv _ _ _ (28, [some (.ref 73), some (.int a0)], [.int x502]) _ _ _
    refine zEv_if 1 (c := x502 = 0) (f1 := (35, [some (.ref 73), some (.int a0)], [])) (f2 := (31, [some (.ref 73), some (.int a0)], [])) (h1 := zHp (zUp I 84 (Int32.toNatClampNeg (I 73 16)) x501)) (fun n => rfl) (fun hc => ?_) (fun hc => ?_)
    · rw [if_pos hc] at hf
      refine zEv_if 3 (c := a0 = 35) (f1 := (41, [some (.ref 73), some (.int a0)], [])) (f2 := (45, [some (.ref 73), some (.int a0)], [])) (h1 := zHp (zUp I 84 (Int32.toNatClampNeg (I 73 16)) x501)) (fun n => rfl) (fun hc => ?_) (fun hc => ?_)
      · rw [if_pos hc] at hf
        cases hf
        exact zEv_ret 3 (fun n => rfl)
      · rw [if_neg hc] at hf
        refine zEv_if 3 (c := a0 = 46) (f1 := (51, [some (.ref 73), some (.int a0)], [])) (f2 := (60, [some (.ref 73), some (.int a0)], [])) (h1 := zHp (zUp I 84 (Int32.toNatClampNeg (I 73 16)) x501)) (fun n => rfl) (fun hc => ?_) (fun hc => ?_)
        · rw [if_pos hc] at hf
          obtain ⟨⟨x503, I504⟩, hx, hf⟩ := Option.bind_eq_some_iff.mp hf
          dsimp only at hf
          refine zEv_call 4 (N := 133) (vs := [.ref 73, .int 5, .int 0]) (v1 := some (.int x503)) (h1 := zHp I504) (L := [some (.ref 73), some (.int a0)]) (rest := []) (pc := 57) (fun n => rfl) (s_Mo_close hx d (by omega)) rfl rfl ?_
          show zEv _ _ _ (57, [some (.ref 73), some (.int a0)], [.int x503]) _ _ _
          cases hf
          exact zEv_ret 2 (fun n => rfl)
        · rw [if_neg hc] at hf
          cases hf
          exact zEv_ret 2 (fun n => rfl)
    · rw [if_neg hc] at hf
      cases hf
      exact zEv_ret 3 (fun n => rfl)
  clear hf
  refine zEv_if 1 (c := x499 = 0) (f1 := (22, [some (.ref 73), some (.int a0)], [.int (I 73 16), .ref 84])) (f2 := (15, [some (.ref 73), some (.int a0)], [.int (I 73 16), .ref 84])) (h1 := zHp I) (fun n => rfl) (fun hc => ?_) (fun hc => ?_)
  · rw [if_pos hc] at hm_m500
    obtain rfl := Option.some.inj hm_m500
    refine zEv_go 1 (f1 := (23, [some (.ref 73), some (.int a0)], [.int 0, .int (I 73 16), .ref 84])) (h1 := zHp I) (fun n => rfl) ?_
    exact zEv_weak (L := [some (.ref 73), some (.int a0)]) (by exact ⟨rfl, ⟨rfl, trivial⟩⟩) hJ_m500
  · rw [if_neg hc] at hm_m500
    obtain rfl := Option.some.inj hm_m500
    refine zEv_go 4 (f1 := (23, [some (.ref 73), some (.int a0)], [.int (a0 - 65), .int (I 73 16), .ref 84])) (h1 := zHp I) (fun n => rfl) ?_
    exact zEv_weak (L := [some (.ref 73), some (.int a0)]) (by exact ⟨rfl, ⟨rfl, trivial⟩⟩) hJ_m500
def Mo_deed  (a0 : Int32) (I : zI) : Option (Int32 × zI) :=
  if a0 = 33 then
    (Mo_close 3 0 I).bind fun (x507, I508) =>
    some (x507, I508)
  else if a0 = 95 then
    (Mo_close 1 0 I).bind fun (x509, I510) =>
    some (x509, I510)
  else if a0 = 120 then
    some (2, I)
  else
    (Mo_in (Int32.toInt64 a0) 48 57 I).bind fun x511 =>
    if x511 = 0 then
      some ((-6), I)
    else
      (Mo_close 0 (a0 - 48) I).bind fun (x512, I513) =>
      some (x512, I513)
theorem s_Mo_deed  {a0 : Int32} {I : zI} {r : Int32} {I' : zI} (hf : Mo_deed a0 I = some (r, I')) (d : Nat) (hd : 1 ≤ d) : zCall d 136 [.ref 73, .int a0] (zHp I) (some (.int r)) (zHp I') := by
  obtain ⟨d, rfl⟩ : ∃ e, d = e + 1 := ⟨d - 1, by omega⟩
  rw [Mo_deed] at hf
  show zEv _ _ _ (0, [some (.ref 73), some (.int a0)], []) _ _ _
  refine zEv_go 1 (f1 := (1, [some (.ref 73), some (.int a0)], [.int a0])) (h1 := zHp I) (fun n => rfl) ?_
  by_cases hc0 : a0 = 33
  · rw [if_pos hc0] at hf
    refine zEv_ls (off := 42) (t := 43) (by rfl) (by decide) (by rw [hc0]; decide) rfl ?_
    obtain ⟨⟨x507, I508⟩, hx, hf⟩ := Option.bind_eq_some_iff.mp hf
    dsimp only at hf
    refine zEv_call 4 (N := 133) (vs := [.ref 73, .int 3, .int 0]) (v1 := some (.int x507)) (h1 := zHp I508) (L := [some (.ref 73), some (.int a0)]) (rest := []) (pc := 49) (fun n => rfl) (s_Mo_close hx d (by omega)) rfl rfl ?_
    show zEv _ _ _ (49, [some (.ref 73), some (.int a0)], [.int x507]) _ _ _
    cases hf
    exact zEv_ret 1 (fun n => rfl)
  rw [if_neg hc0] at hf
  by_cases hc1 : a0 = 95
  · rw [if_pos hc1] at hf
    refine zEv_ls (off := 35) (t := 36) (by rfl) (by decide) (by rw [hc1]; decide) rfl ?_
    obtain ⟨⟨x509, I510⟩, hx, hf⟩ := Option.bind_eq_some_iff.mp hf
    dsimp only at hf
    refine zEv_call 4 (N := 133) (vs := [.ref 73, .int 1, .int 0]) (v1 := some (.int x509)) (h1 := zHp I510) (L := [some (.ref 73), some (.int a0)]) (rest := []) (pc := 42) (fun n => rfl) (s_Mo_close hx d (by omega)) rfl rfl ?_
    show zEv _ _ _ (42, [some (.ref 73), some (.int a0)], [.int x509]) _ _ _
    cases hf
    exact zEv_ret 1 (fun n => rfl)
  rw [if_neg hc1] at hf
  by_cases hc2 : a0 = 120
  · rw [if_pos hc2] at hf
    refine zEv_ls (off := 49) (t := 50) (by rfl) (by decide) (by rw [hc2]; decide) rfl ?_
    cases hf
    exact zEv_ret 2 (fun n => rfl)
  rw [if_neg hc2] at hf
  have hn0 := zNt (k := 33) hc0 (by decide)
  have hn1 := zNt (k := 95) hc1 (by decide)
  have hn2 := zNt (k := 120) hc2 (by decide)
  refine zEv_ls (off := 51) (t := 52) (by rfl) (by decide) (by simp only [Array.toList, Op.lookupswitch.offset_cons]; rw [if_neg (fun q => hn0 q.symm)]; rw [if_neg (fun q => hn1 q.symm)]; rw [if_neg (fun q => hn2 q.symm)]; rfl) rfl ?_
  obtain ⟨x511, hx, hf⟩ := Option.bind_eq_some_iff.mp hf
  refine zEv_call 5 (N := 117) (vs := [.long (Int32.toInt64 a0), .long 48, .long 57]) (v1 := some (.int x511)) (h1 := zHp I) (L := [some (.ref 73), some (.int a0)]) (rest := []) (pc := 63) (fun n => rfl) (s_Mo_in hx d (by omega)) rfl rfl ?_
  show zEv _ _ _ (63, [some (.ref 73), some (.int a0)], [.int x511]) _ _ _
  refine zEv_if 1 (c := x511 = 0) (f1 := (78, [some (.ref 73), some (.int a0)], [])) (f2 := (66, [some (.ref 73), some (.int a0)], [])) (h1 := zHp I) (fun n => rfl) (fun hc => ?_) (fun hc => ?_)
  · rw [if_pos hc] at hf
    cases hf
    exact zEv_ret 2 (fun n => rfl)
  · rw [if_neg hc] at hf
    obtain ⟨⟨x512, I513⟩, hx, hf⟩ := Option.bind_eq_some_iff.mp hf
    dsimp only at hf
    refine zEv_call 6 (N := 133) (vs := [.ref 73, .int 0, .int (a0 - 48)]) (v1 := some (.int x512)) (h1 := zHp I513) (L := [some (.ref 73), some (.int a0)]) (rest := []) (pc := 75) (fun n => rfl) (s_Mo_close hx d (by omega)) rfl rfl ?_
    show zEv _ _ _ (75, [some (.ref 73), some (.int a0)], [.int x512]) _ _ _
    cases hf
    exact zEv_ret 2 (fun n => rfl)
def Mo_readOn  (a0 : Int32) (a1 : Int32) (I : zI) : Option (Int32 × zI) :=
  if a0 = 0 then
    (Mo_begin a1 I).bind fun (x505, I506) =>
    some (x505, I506)
  else if a0 = 1 then
    (Mo_deed a1 I).bind fun (x514, I515) =>
    some (x514, I515)
  else if a0 = 2 then
    (Mo_isName a1 I).bind fun x516 =>
    if x516 = 0 then
      some ((-6), I)
    else
      (Mo_close 2 (a1 - 65) I).bind fun (x517, I518) =>
      some (x517, I518)
  else
    (Mo_in (Int32.toInt64 a1) 48 57 I).bind fun x519 =>
    if x519 = 0 then
      some ((-6), I)
    else
      (Mo_close 4 (a1 - 48) I).bind fun (x520, I521) =>
      some (x520, I521)
theorem s_Mo_readOn  {a0 : Int32} {a1 : Int32} {I : zI} {r : Int32} {I' : zI} (hf : Mo_readOn a0 a1 I = some (r, I')) (d : Nat) (hd : 3 ≤ d) : zCall d 137 [.ref 73, .int a0, .int a1] (zHp I) (some (.int r)) (zHp I') := by
  obtain ⟨d, rfl⟩ : ∃ e, d = e + 1 := ⟨d - 1, by omega⟩
  rw [Mo_readOn] at hf
  show zEv _ _ _ (0, [some (.ref 73), some (.int a0), some (.int a1)], []) _ _ _
  refine zEv_go 1 (f1 := (1, [some (.ref 73), some (.int a0), some (.int a1)], [.int a0])) (h1 := zHp I) (fun n => rfl) ?_
  by_cases hc0 : a0 = 0
  · rw [if_pos hc0] at hf
    refine zEv_tsk (off := 27) (t := 28) 0 (by rfl) hc0 (by decide) rfl rfl ?_
    obtain ⟨⟨x505, I506⟩, hx, hf⟩ := Option.bind_eq_some_iff.mp hf
    dsimp only at hf
    refine zEv_call 3 (N := 135) (vs := [.ref 73, .int a1]) (v1 := some (.int x505)) (h1 := zHp I506) (L := [some (.ref 73), some (.int a0), some (.int a1)]) (rest := []) (pc := 33) (fun n => rfl) (s_Mo_begin hx d (by omega)) rfl rfl ?_
    show zEv _ _ _ (33, [some (.ref 73), some (.int a0), some (.int a1)], [.int x505]) _ _ _
    cases hf
    exact zEv_ret 1 (fun n => rfl)
  rw [if_neg hc0] at hf
  by_cases hc1 : a0 = 1
  · rw [if_pos hc1] at hf
    refine zEv_tsk (off := 33) (t := 34) 1 (by rfl) hc1 (by decide) rfl rfl ?_
    obtain ⟨⟨x514, I515⟩, hx, hf⟩ := Option.bind_eq_some_iff.mp hf
    dsimp only at hf
    refine zEv_call 3 (N := 136) (vs := [.ref 73, .int a1]) (v1 := some (.int x514)) (h1 := zHp I515) (L := [some (.ref 73), some (.int a0), some (.int a1)]) (rest := []) (pc := 39) (fun n => rfl) (s_Mo_deed hx d (by omega)) rfl rfl ?_
    show zEv _ _ _ (39, [some (.ref 73), some (.int a0), some (.int a1)], [.int x514]) _ _ _
    cases hf
    exact zEv_ret 1 (fun n => rfl)
  rw [if_neg hc1] at hf
  by_cases hc2 : a0 = 2
  · rw [if_pos hc2] at hf
    refine zEv_tsk (off := 39) (t := 40) 2 (by rfl) hc2 (by decide) rfl rfl ?_
    obtain ⟨x516, hx, hf⟩ := Option.bind_eq_some_iff.mp hf
    refine zEv_call 2 (N := 134) (vs := [.int a1]) (v1 := some (.int x516)) (h1 := zHp I) (L := [some (.ref 73), some (.int a0), some (.int a1)]) (rest := []) (pc := 44) (fun n => rfl) (s_Mo_isName hx d (by omega)) rfl rfl ?_
    show zEv _ _ _ (44, [some (.ref 73), some (.int a0), some (.int a1)], [.int x516]) _ _ _
    refine zEv_if 1 (c := x516 = 0) (f1 := (59, [some (.ref 73), some (.int a0), some (.int a1)], [])) (f2 := (47, [some (.ref 73), some (.int a0), some (.int a1)], [])) (h1 := zHp I) (fun n => rfl) (fun hc => ?_) (fun hc => ?_)
    · rw [if_pos hc] at hf
      cases hf
      exact zEv_ret 2 (fun n => rfl)
    · rw [if_neg hc] at hf
      obtain ⟨⟨x517, I518⟩, hx, hf⟩ := Option.bind_eq_some_iff.mp hf
      dsimp only at hf
      refine zEv_call 6 (N := 133) (vs := [.ref 73, .int 2, .int (a1 - 65)]) (v1 := some (.int x517)) (h1 := zHp I518) (L := [some (.ref 73), some (.int a0), some (.int a1)]) (rest := []) (pc := 56) (fun n => rfl) (s_Mo_close hx d (by omega)) rfl rfl ?_
      show zEv _ _ _ (56, [some (.ref 73), some (.int a0), some (.int a1)], [.int x517]) _ _ _
      cases hf
      exact zEv_ret 2 (fun n => rfl)
  rw [if_neg hc2] at hf
  have hn0 := zNt (k := 0) hc0 (by decide)
  have hn1 := zNt (k := 1) hc1 (by decide)
  have hn2 := zNt (k := 2) hc2 (by decide)
  refine zEv_tsd (t := 62) (by rfl) (by omega) rfl ?_
  obtain ⟨x519, hx, hf⟩ := Option.bind_eq_some_iff.mp hf
  refine zEv_call 5 (N := 117) (vs := [.long (Int32.toInt64 a1), .long 48, .long 57]) (v1 := some (.int x519)) (h1 := zHp I) (L := [some (.ref 73), some (.int a0), some (.int a1)]) (rest := []) (pc := 73) (fun n => rfl) (s_Mo_in hx d (by omega)) rfl rfl ?_
  show zEv _ _ _ (73, [some (.ref 73), some (.int a0), some (.int a1)], [.int x519]) _ _ _
  refine zEv_if 1 (c := x519 = 0) (f1 := (88, [some (.ref 73), some (.int a0), some (.int a1)], [])) (f2 := (76, [some (.ref 73), some (.int a0), some (.int a1)], [])) (h1 := zHp I) (fun n => rfl) (fun hc => ?_) (fun hc => ?_)
  · rw [if_pos hc] at hf
    cases hf
    exact zEv_ret 2 (fun n => rfl)
  · rw [if_neg hc] at hf
    obtain ⟨⟨x520, I521⟩, hx, hf⟩ := Option.bind_eq_some_iff.mp hf
    dsimp only at hf
    refine zEv_call 6 (N := 133) (vs := [.ref 73, .int 4, .int (a1 - 48)]) (v1 := some (.int x520)) (h1 := zHp I521) (L := [some (.ref 73), some (.int a0), some (.int a1)]) (rest := []) (pc := 85) (fun n => rfl) (s_Mo_close hx d (by omega)) rfl rfl ?_
    show zEv _ _ _ (85, [some (.ref 73), some (.int a0), some (.int a1)], [.int x520]) _ _ _
    cases hf
    exact zEv_ret 2 (fun n => rfl)
def Mo_fault_L9 : Nat → Int32 → Int32 → zI → Option (Int32 × zI)
  | 0, _, _, _ => none
  | n + 1, v1, v2, I =>
    if (I 73 12) ≤ v2 then
      if v1 = 0 then
        some ((-6), I)
      else
        some ((I 73 12), I)
    else
      if zIn v2 60 then
        (Mo_readOn v1 (I 82 (Int32.toNatClampNeg v2)) I).bind fun (x522, I523) =>
        if 0 ≤ x522 then
          Mo_fault_L9 n x522 (v2 + 1) I523
        else
          some (v2, I523)
      else none
theorem s_Mo_fault_L9 (d : Nat) (hd : 4 ≤ d) : ∀ (n : Nat) {v1 : Int32} {v2 : Int32} {I : zI} {r : Int32} {I' : zI}, Mo_fault_L9 n v1 v2 I = some (r, I') → zEv none d 138 (9, [some (.ref 73), some (.int v1), some (.int v2)], []) (zHp I) (some (.int r)) (zHp I') := by
  obtain ⟨d, rfl⟩ : ∃ e, d = e + 1 := ⟨d - 1, by omega⟩
  intro n
  induction n with
  | zero => intros; rename_i hf; cases hf
  | succ n ih =>
    intro v1 v2 I r I' hf
    rw [Mo_fault_L9] at hf
    refine zEv_if 4 (c := (I 73 12) ≤ v2) (f1 := (41, [some (.ref 73), some (.int v1), some (.int v2)], [])) (f2 := (17, [some (.ref 73), some (.int v1), some (.int v2)], [])) (h1 := zHp I) (fun n => rfl) (fun hc => ?_) (fun hc => ?_)
    · rw [if_pos hc] at hf
      refine zEv_if 2 (c := v1 = 0) (f1 := (45, [some (.ref 73), some (.int v1), some (.int v2)], [])) (f2 := (50, [some (.ref 73), some (.int v1), some (.int v2)], [])) (h1 := zHp I) (fun n => rfl) (fun hc => ?_) (fun hc => ?_)
      · rw [if_pos hc] at hf
        cases hf
        exact zEv_ret 3 (fun n => rfl)
      · rw [if_neg hc] at hf
        cases hf
        exact zEv_ret 3 (fun n => rfl)
    · rw [if_neg hc] at hf
      obtain ⟨hc, hf⟩ := zGd_inv hf
      refine zEv_gd 6 (c := zIn v2 60) (f1 := (25, [some (.ref 73), some (.int v1), some (.int v2)], [.int (I 82 (Int32.toNatClampNeg v2)), .int v1, .ref 73])) (h1 := zHp I) (fun n => rfl) hc ?_
      obtain ⟨⟨x522, I523⟩, hx, hf⟩ := Option.bind_eq_some_iff.mp hf
      dsimp only at hf
      refine zEv_call 1 (N := 137) (vs := [.ref 73, .int v1, .int (I 82 (Int32.toNatClampNeg v2))]) (v1 := some (.int x522)) (h1 := zHp I523) (L := [some (.ref 73), some (.int v1), some (.int v2)]) (rest := []) (pc := 28) (fun n => rfl) (s_Mo_readOn hx d (by omega)) rfl rfl ?_
      show zEv _ _ _ (28, [some (.ref 73), some (.int v1), some (.int v2)], [.int x522]) _ _ _
      refine zEv_if 3 (c := 0 ≤ x522) (f1 := (35, [some (.ref 73), some (.int x522), some (.int v2)], [])) (f2 := (33, [some (.ref 73), some (.int x522), some (.int v2)], [])) (h1 := zHp I523) (fun n => rfl) (fun hc => ?_) (fun hc => ?_)
      · rw [if_pos hc] at hf
        refine zEv_go 2 (f1 := (9, [some (.ref 73), some (.int x522), some (.int (v2 + 1))], [])) (h1 := zHp I523) (fun n => rfl) ?_
        refine zEv_weak (L := [some (.ref 73), some (.int x522), some (.int (v2 + 1))]) (by exact ⟨rfl, ⟨rfl, ⟨rfl, trivial⟩⟩⟩) ?_
        exact ih hf
      · rw [if_neg hc] at hf
        cases hf
        exact zEv_ret 2 (fun n => rfl)
def Mo_fault (n : Nat) (I : zI) : Option (Int32 × zI) :=
  Mo_fault_L9 n 0 0 (zUp I 73 16 0)
theorem s_Mo_fault {n : Nat} {I : zI} {r : Int32} {I' : zI} (hf : Mo_fault n I = some (r, I')) (d : Nat) (hd : 4 ≤ d) : zCall d 138 [.ref 73] (zHp I) (some (.int r)) (zHp I') := by
  obtain ⟨d, rfl⟩ : ∃ e, d = e + 1 := ⟨d - 1, by omega⟩
  rw [Mo_fault] at hf
  show zEv _ _ _ (0, [some (.ref 73), none, none], []) _ _ _
  refine zEv_go 7 (f1 := (9, [some (.ref 73), some (.int 0), some (.int 0)], [])) (h1 := zHp (zUp I 73 16 0)) (fun n => rfl) ?_
  exact zEv_weak (L := [some (.ref 73), some (.int 0), some (.int 0)]) (by exact ⟨rfl, ⟨rfl, ⟨rfl, trivial⟩⟩⟩) (s_Mo_fault_L9 (d + 1) (by omega) n hf)
def Mo_keepNow_L43 : Nat → Int32 → zI → Option (zI)
  | 0, _, _ => none
  | n + 1, v1, I =>
    if 10 ≤ v1 then
      some I
    else
      if zIn v1 10 then
        if zIn (16 + v1) 38 then
          if zIn v1 10 then
            if zIn (26 + v1) 38 then
              Mo_keepNow_L43 n (v1 + 1) (zUp (zUp I 87 (Int32.toNatClampNeg (16 + v1)) (I 77 (Int32.toNatClampNeg v1))) 87 (Int32.toNatClampNeg (26 + v1)) ((zUp I 87 (Int32.toNatClampNeg (16 + v1)) (I 77 (Int32.toNatClampNeg v1))) 78 (Int32.toNatClampNeg v1)))
            else none
          else none
        else none
      else none
theorem s_Mo_keepNow_L43 (d : Nat) (hd : 0 ≤ d) : ∀ (n : Nat) {v1 : Int32} {I : zI}  {I' : zI} {v : Option Value} {h' : zH}, Mo_keepNow_L43 n v1 I = some I' → zEv none d 147 (85, [some (.ref 73), none], []) (zHp I') v h' → zEv none d 147 (43, [some (.ref 73), some (.int v1)], []) (zHp I) v h' := by
  intro n
  induction n with
  | zero => intros; rename_i hf _; cases hf
  | succ n ih =>
    intro v1 I I' v h' hf kk
    rw [Mo_keepNow_L43] at hf
    refine zEv_if 3 (c := 10 ≤ v1) (f1 := (85, [some (.ref 73), some (.int v1)], [])) (f2 := (49, [some (.ref 73), some (.int v1)], [])) (h1 := zHp I) (fun n => rfl) (fun hc => ?_) (fun hc => ?_)
    · rw [if_pos hc] at hf
      obtain rfl := Option.some.inj hf
      exact zEv_weak (L := [some (.ref 73), none]) (by exact ⟨rfl, ⟨rfl, trivial⟩⟩) kk
    · rw [if_neg hc] at hf
      obtain ⟨hc, hf⟩ := zGd_inv hf
      refine zEv_gd 9 (c := zIn v1 10) (f1 := (63, [some (.ref 73), some (.int v1)], [.int (I 77 (Int32.toNatClampNeg v1)), .int (16 + v1), .ref 87])) (h1 := zHp I) (fun n => rfl) hc ?_
      obtain ⟨hc, hf⟩ := zGd_inv hf
      refine zEv_gd 1 (c := zIn (16 + v1) 38) (f1 := (64, [some (.ref 73), some (.int v1)], [])) (h1 := zHp (zUp I 87 (Int32.toNatClampNeg (16 + v1)) (I 77 (Int32.toNatClampNeg v1)))) (fun n => rfl) hc ?_
      obtain ⟨hc, hf⟩ := zGd_inv hf
      refine zEv_gd 9 (c := zIn v1 10) (f1 := (78, [some (.ref 73), some (.int v1)], [.int ((zUp I 87 (Int32.toNatClampNeg (16 + v1)) (I 77 (Int32.toNatClampNeg v1))) 78 (Int32.toNatClampNeg v1)), .int (26 + v1), .ref 87])) (h1 := zHp (zUp I 87 (Int32.toNatClampNeg (16 + v1)) (I 77 (Int32.toNatClampNeg v1)))) (fun n => rfl) hc ?_
      obtain ⟨hc, hf⟩ := zGd_inv hf
      refine zEv_gd 1 (c := zIn (26 + v1) 38) (f1 := (79, [some (.ref 73), some (.int v1)], [])) (h1 := zHp (zUp (zUp I 87 (Int32.toNatClampNeg (16 + v1)) (I 77 (Int32.toNatClampNeg v1))) 87 (Int32.toNatClampNeg (26 + v1)) ((zUp I 87 (Int32.toNatClampNeg (16 + v1)) (I 77 (Int32.toNatClampNeg v1))) 78 (Int32.toNatClampNeg v1)))) (fun n => rfl) hc ?_
      refine zEv_go 2 (f1 := (43, [some (.ref 73), some (.int (v1 + 1))], [])) (h1 := zHp (zUp (zUp I 87 (Int32.toNatClampNeg (16 + v1)) (I 77 (Int32.toNatClampNeg v1))) 87 (Int32.toNatClampNeg (26 + v1)) ((zUp I 87 (Int32.toNatClampNeg (16 + v1)) (I 77 (Int32.toNatClampNeg v1))) 78 (Int32.toNatClampNeg v1)))) (fun n => rfl) ?_
      refine zEv_weak (L := [some (.ref 73), some (.int (v1 + 1))]) (by exact ⟨rfl, ⟨rfl, trivial⟩⟩) ?_
      exact ih hf kk
def Mo_keepNow_L2 : Nat → Int32 → zI → Option (zI)
  | 0, _, _ => none
  | n + 1, v1, I =>
    if 8 ≤ v1 then
      some I
    else
      if zIn v1 8 then
        if zIn v1 38 then
          if zIn v1 8 then
            if zIn (8 + v1) 38 then
              Mo_keepNow_L2 n (v1 + 1) (zUp (zUp I 87 (Int32.toNatClampNeg v1) (I 75 (Int32.toNatClampNeg v1))) 87 (Int32.toNatClampNeg (8 + v1)) ((zUp I 87 (Int32.toNatClampNeg v1) (I 75 (Int32.toNatClampNeg v1))) 76 (Int32.toNatClampNeg v1)))
            else none
          else none
        else none
      else none
theorem s_Mo_keepNow_L2 (d : Nat) (hd : 0 ≤ d) : ∀ (n : Nat) {v1 : Int32} {I : zI}  {I' : zI} {v : Option Value} {h' : zH}, Mo_keepNow_L2 n v1 I = some I' → zEv none d 147 (41, [some (.ref 73), none], []) (zHp I') v h' → zEv none d 147 (2, [some (.ref 73), some (.int v1)], []) (zHp I) v h' := by
  intro n
  induction n with
  | zero => intros; rename_i hf _; cases hf
  | succ n ih =>
    intro v1 I I' v h' hf kk
    rw [Mo_keepNow_L2] at hf
    refine zEv_if 3 (c := 8 ≤ v1) (f1 := (41, [some (.ref 73), some (.int v1)], [])) (f2 := (8, [some (.ref 73), some (.int v1)], [])) (h1 := zHp I) (fun n => rfl) (fun hc => ?_) (fun hc => ?_)
    · rw [if_pos hc] at hf
      obtain rfl := Option.some.inj hf
      exact zEv_weak (L := [some (.ref 73), none]) (by exact ⟨rfl, ⟨rfl, trivial⟩⟩) kk
    · rw [if_neg hc] at hf
      obtain ⟨hc, hf⟩ := zGd_inv hf
      refine zEv_gd 7 (c := zIn v1 8) (f1 := (19, [some (.ref 73), some (.int v1)], [.int (I 75 (Int32.toNatClampNeg v1)), .int v1, .ref 87])) (h1 := zHp I) (fun n => rfl) hc ?_
      obtain ⟨hc, hf⟩ := zGd_inv hf
      refine zEv_gd 1 (c := zIn v1 38) (f1 := (20, [some (.ref 73), some (.int v1)], [])) (h1 := zHp (zUp I 87 (Int32.toNatClampNeg v1) (I 75 (Int32.toNatClampNeg v1)))) (fun n => rfl) hc ?_
      obtain ⟨hc, hf⟩ := zGd_inv hf
      refine zEv_gd 9 (c := zIn v1 8) (f1 := (34, [some (.ref 73), some (.int v1)], [.int ((zUp I 87 (Int32.toNatClampNeg v1) (I 75 (Int32.toNatClampNeg v1))) 76 (Int32.toNatClampNeg v1)), .int (8 + v1), .ref 87])) (h1 := zHp (zUp I 87 (Int32.toNatClampNeg v1) (I 75 (Int32.toNatClampNeg v1)))) (fun n => rfl) hc ?_
      obtain ⟨hc, hf⟩ := zGd_inv hf
      refine zEv_gd 1 (c := zIn (8 + v1) 38) (f1 := (35, [some (.ref 73), some (.int v1)], [])) (h1 := zHp (zUp (zUp I 87 (Int32.toNatClampNeg v1) (I 75 (Int32.toNatClampNeg v1))) 87 (Int32.toNatClampNeg (8 + v1)) ((zUp I 87 (Int32.toNatClampNeg v1) (I 75 (Int32.toNatClampNeg v1))) 76 (Int32.toNatClampNeg v1)))) (fun n => rfl) hc ?_
      refine zEv_go 2 (f1 := (2, [some (.ref 73), some (.int (v1 + 1))], [])) (h1 := zHp (zUp (zUp I 87 (Int32.toNatClampNeg v1) (I 75 (Int32.toNatClampNeg v1))) 87 (Int32.toNatClampNeg (8 + v1)) ((zUp I 87 (Int32.toNatClampNeg v1) (I 75 (Int32.toNatClampNeg v1))) 76 (Int32.toNatClampNeg v1)))) (fun n => rfl) ?_
      refine zEv_weak (L := [some (.ref 73), some (.int (v1 + 1))]) (by exact ⟨rfl, ⟨rfl, trivial⟩⟩) ?_
      exact ih hf kk
def Mo_keepNow (n : Nat) (I : zI) : Option (zI) :=
  (Mo_keepNow_L2 n 0 I).bind fun I525 =>
  (Mo_keepNow_L43 n 0 I525).bind fun I526 =>
  some (zUp (zUp I526 87 36 (I526 73 5)) 87 37 ((zUp I526 87 36 (I526 73 5)) 73 6))
theorem s_Mo_keepNow {n : Nat} {I : zI} {I' : zI} (hf : Mo_keepNow n I = some I') (d : Nat) (hd : 0 ≤ d) : zCall d 147 [.ref 73] (zHp I) (none) (zHp I') := by
  rw [Mo_keepNow] at hf
  show zEv _ _ _ (0, [some (.ref 73), none], []) _ _ _
  obtain ⟨I525, hx, hf⟩ := Option.bind_eq_some_iff.mp hf
  refine zEv_go 2 (f1 := (2, [some (.ref 73), some (.int 0)], [])) (h1 := zHp I) (fun n => rfl) ?_
  refine zEv_weak (L := [some (.ref 73), some (.int 0)]) (by exact ⟨rfl, ⟨rfl, trivial⟩⟩) (s_Mo_keepNow_L2 (d) (by omega) n hx ?_)
  obtain ⟨I526, hx, hf⟩ := Option.bind_eq_some_iff.mp hf
  refine zEv_go 2 (f1 := (43, [some (.ref 73), some (.int 0)], [])) (h1 := zHp I525) (fun n => rfl) ?_
  refine zEv_weak (L := [some (.ref 73), some (.int 0)]) (by exact ⟨rfl, ⟨rfl, trivial⟩⟩) (s_Mo_keepNow_L43 (d) (by omega) n hx ?_)
  cases hf
  exact zEv_ret 13 (fun n => rfl)
