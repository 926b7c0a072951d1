set_option maxRecDepth 100000
def Mo_round_L105 : Nat → Int32 → Int32 → Int32 → Int32 → zI → Option (Int32)
  | 0, _, _, _, _, _ => none
  | n + 1, v1, v2, v3, v4, I =>
    if 10 ≤ v4 then
      some v3
    else
      (Mo_isIn v2 v4 I).bind fun x635 =>
      (
        if x635 = 0 then
          some 0
        else
          if zIn ((10 * v2) + v4) 10240 then
            if (I 88 (Int32.toNatClampNeg ((10 * v2) + v4))) < 0 then
              some 0
            else
              some 1
          else none : Option (Int32)).bind fun x637 =>
      (
        if x637 = 0 then
          some v3
        else
          if zIn ((10 * v2) + v4) 10240 then
            if zIn ((10 * v4) + v1) 100 then
              (Mo_least v3 ((I 88 (Int32.toNatClampNeg ((10 * v2) + v4))) + (I 89 (Int32.toNatClampNeg ((10 * v4) + v1)))) I).bind fun x639 =>
              some x639
            else none
          else none : Option (Int32)).bind fun x640 =>
      Mo_round_L105 n v1 v2 x640 (v4 + 1) I
theorem s_Mo_round_L105 (d : Nat) (hd : 3 ≤ d) : ∀ (n : Nat) {v1 : Int32} {v2 : Int32} {v3 : Int32} {v4 : Int32} {I : zI} {y3 : Int32} {v : Option Value} {h' : zH}, Mo_round_L105 n v1 v2 v3 v4 I = some y3 → zEv none d 163 (188, [some (.ref 73), none, none, some (.int y3), none, none], []) (zHp I) v h' → zEv none d 163 (105, [some (.ref 73), some (.int v1), some (.int v2), some (.int v3), some (.int v4), none], []) (zHp I) v h' := by
  obtain ⟨d, rfl⟩ : ∃ e, d = e + 1 := ⟨d - 1, by omega⟩
  intro n
  induction n with
  | zero => intros; rename_i hf _; cases hf
  | succ n ih =>
    intro v1 v2 v3 v4 I y3 v h' hf kk
    rw [Mo_round_L105] at hf
    refine zEv_if 3 (c := 10 ≤ v4) (f1 := (188, [some (.ref 73), some (.int v1), some (.int v2), some (.int v3), some (.int v4), none], [])) (f2 := (112, [some (.ref 73), some (.int v1), some (.int v2), some (.int v3), some (.int v4), none], [])) (h1 := zHp I) (fun n => rfl) (fun hc => ?_) (fun hc => ?_)
    · rw [if_pos hc] at hf
      obtain rfl := Option.some.inj hf
      exact zEv_weak (L := [some (.ref 73), none, none, some (.int v3), none, none]) (by exact ⟨rfl, ⟨rfl, ⟨rfl, ⟨rfl, ⟨rfl, ⟨rfl, trivial⟩⟩⟩⟩⟩⟩) kk
    · rw [if_neg hc] at hf
      obtain ⟨x635, hx, hf⟩ := Option.bind_eq_some_iff.mp hf
      refine zEv_call 3 (N := 121) (vs := [.int v2, .int v4]) (v1 := some (.int x635)) (h1 := zHp I) (L := [some (.ref 73), some (.int v1), some (.int v2), some (.int v3), some (.int v4), none]) (rest := []) (pc := 118) (fun n => rfl) (s_Mo_isIn hx d (by omega)) rfl rfl ?_
      show zEv _ _ _ (118, [some (.ref 73), some (.int v1), some (.int v2), some (.int v3), some (.int v4), none], [.int x635]) _ _ _
      obtain ⟨x637, hm_m636, hf⟩ := Option.bind_eq_some_iff.mp hf
      have hJ_m636 : zEv none (d + 1) 163 (141, [some (.ref 73), some (.int v1), some (.int v2), some (.int v3), some (.int v4), none], [.int x637]) (zHp I) v h' := by
        obtain ⟨x640, hm_m638, hf⟩ := Option.bind_eq_some_iff.mp hf
        have hJ_m638 : zEv none (d + 1) 163 (181, [some (.ref 73), some (.int v1), some (.int v2), none, some (.int v4), none], [.int x640]) (zHp I) v h' := by
          refine zEv_go 3 (f1 := (105, [some (.ref 73), some (.int v1), some (.int v2), some (.int x640), some (.int (v4 + 1)), none], [])) (h1 := zHp I) (fun n => rfl) ?_
          refine zEv_weak (L := [some (.ref 73), some (.int v1), some (.int v2), some (.int x640), some (.int (v4 + 1)), none]) (by exact ⟨rfl, ⟨rfl, ⟨rfl, ⟨rfl, ⟨rfl, ⟨rfl, trivial⟩⟩⟩⟩⟩⟩) ?_
          exact ih hf kk
        clear hf
        refine zEv_if 3 (c := x637 = 0) (f1 := (180, [some (.ref 73), some (.int v1), some (.int v2), some (.int v3), some (.int v4), some (.int x637)], [])) (f2 := (148, [some (.ref 73), some (.int v1), some (.int v2), some (.int v3), some (.int v4), some (.int x637)], [])) (h1 := zHp I) (fun n => rfl) (fun hc => ?_) (fun hc => ?_)
        · rw [if_pos hc] at hm_m638
          obtain rfl := Option.some.inj hm_m638
          refine zEv_go 1 (f1 := (181, [some (.ref 73), some (.int v1), some (.int v2), some (.int v3), some (.int v4), some (.int x637)], [.int v3])) (h1 := zHp I) (fun n => rfl) ?_
          exact zEv_weak (L := [some (.ref 73), some (.int v1), some (.int v2), none, some (.int v4), none]) (by exact ⟨rfl, ⟨rfl, ⟨rfl, ⟨rfl, ⟨rfl, ⟨rfl, trivial⟩⟩⟩⟩⟩⟩) hJ_m638
        · rw [if_neg hc] at hm_m638
          obtain ⟨hc, hm_m638⟩ := zGd_inv hm_m638
          refine zEv_gd 9 (c := zIn ((10 * v2) + v4) 10240) (f1 := (161, [some (.ref 73), some (.int v1), some (.int v2), some (.int v3), some (.int v4), some (.int x637)], [.int (I 88 (Int32.toNatClampNeg ((10 * v2) + v4))), .int v3])) (h1 := zHp I) (fun n => rfl) hc ?_
          obtain ⟨hc, hm_m638⟩ := zGd_inv hm_m638
          refine zEv_gd 8 (c := zIn ((10 * v4) + v1) 100) (f1 := (173, [some (.ref 73), some (.int v1), some (.int v2), some (.int v3), some (.int v4), some (.int x637)], [.int (I 89 (Int32.toNatClampNeg ((10 * v4) + v1))), .int (I 88 (Int32.toNatClampNeg ((10 * v2) + v4))), .int v3])) (h1 := zHp I) (fun n => rfl) hc ?_
          obtain ⟨x639, hx, hm_m638⟩ := Option.bind_eq_some_iff.mp hm_m638
          refine zEv_call 2 (N := 161) (vs := [.int v3, .int ((I 88 (Int32.toNatClampNeg ((10 * v2) + v4))) + (I 89 (Int32.toNatClampNeg ((10 * v4) + v1))))]) (v1 := some (.int x639)) (h1 := zHp I) (L := [some (.ref 73), some (.int v1), some (.int v2), some (.int v3), some (.int v4), some (.int x637)]) (rest := []) (pc := 177) (fun n => rfl) (s_Mo_least hx d (by omega)) rfl rfl ?_
          show zEv _ _ _ (177, [some (.ref 73), some (.int v1), some (.int v2), some (.int v3), some (.int v4), some (.int x637)], [.int x639]) _ _ _
          obtain rfl := Option.some.inj hm_m638
          refine zEv_go 1 (f1 := (181, [some (.ref 73), some (.int v1), some (.int v2), some (.int v3), some (.int v4), some (.int x637)], [.int x639])) (h1 := zHp I) (fun n => rfl) ?_
          exact zEv_weak (L := [some (.ref 73), some (.int v1), some (.int v2), none, some (.int v4), none]) (by exact ⟨rfl, ⟨rfl, ⟨rfl, ⟨rfl, ⟨rfl, ⟨rfl, trivial⟩⟩⟩⟩⟩⟩) hJ_m638
      clear hf
      refine zEv_if 1 (c := x635 = 0) (f1 := (140, [some (.ref 73), some (.int v1), some (.int v2), some (.int v3), some (.int v4), none], [])) (f2 := (121, [some (.ref 73), some (.int v1), some (.int v2), some (.int v3), some (.int v4), none], [])) (h1 := zHp I) (fun n => rfl) (fun hc => ?_) (fun hc => ?_)
      · rw [if_pos hc] at hm_m636
        obtain rfl := Option.some.inj hm_m636
        refine zEv_go 1 (f1 := (141, [some (.ref 73), some (.int v1), some (.int v2), some (.int v3), some (.int v4), none], [.int 0])) (h1 := zHp I) (fun n => rfl) ?_
        exact zEv_weak (L := [some (.ref 73), some (.int v1), some (.int v2), some (.int v3), some (.int v4), none]) (by exact ⟨rfl, ⟨rfl, ⟨rfl, ⟨rfl, ⟨rfl, ⟨rfl, trivial⟩⟩⟩⟩⟩⟩) hJ_m636
      · rw [if_neg hc] at hm_m636
        obtain ⟨hc, hm_m636⟩ := zGd_inv hm_m636
        refine zEv_gd 8 (c := zIn ((10 * v2) + v4) 10240) (f1 := (133, [some (.ref 73), some (.int v1), some (.int v2), some (.int v3), some (.int v4), none], [.int (I 88 (Int32.toNatClampNeg ((10 * v2) + v4)))])) (h1 := zHp I) (fun n => rfl) hc ?_
        refine zEv_if 1 (c := (I 88 (Int32.toNatClampNeg ((10 * v2) + v4))) < 0) (f1 := (140, [some (.ref 73), some (.int v1), some (.int v2), some (.int v3), some (.int v4), none], [])) (f2 := (136, [some (.ref 73), some (.int v1), some (.int v2), some (.int v3), some (.int v4), none], [])) (h1 := zHp I) (fun n => rfl) (fun hc => ?_) (fun hc => ?_)
        · rw [if_pos hc] at hm_m636
          obtain rfl := Option.some.inj hm_m636
          refine zEv_go 1 (f1 := (141, [some (.ref 73), some (.int v1), some (.int v2), some (.int v3), some (.int v4), none], [.int 0])) (h1 := zHp I) (fun n => rfl) ?_
          exact zEv_weak (L := [some (.ref 73), some (.int v1), some (.int v2), some (.int v3), some (.int v4), none]) (by exact ⟨rfl, ⟨rfl, ⟨rfl, ⟨rfl, ⟨rfl, ⟨rfl, trivial⟩⟩⟩⟩⟩⟩) hJ_m636
        · rw [if_neg hc] at hm_m636
          obtain rfl := Option.some.inj hm_m636
          refine zEv_go 2 (f1 := (141, [some (.ref 73), some (.int v1), some (.int v2), some (.int v3), some (.int v4), none], [.int 1])) (h1 := zHp I) (fun n => rfl) ?_
          exact zEv_weak (L := [some (.ref 73), some (.int v1), some (.int v2), some (.int v3), some (.int v4), none]) (by exact ⟨rfl, ⟨rfl, ⟨rfl, ⟨rfl, ⟨rfl, ⟨rfl, trivial⟩⟩⟩⟩⟩⟩) hJ_m636
def Mo_round_L38 : Nat → Int32 → Int32 → Int32 → Int32 → zI → Option (zI)
  | 0, _, _, _, _, _ => none
  | n + 1, v1, v2, v3, v4, I =>
    if 10 ≤ v4 then
      some I
    else
      (Mo_isIn v3 v4 I).bind fun x620 =>
      (
        if x620 = 0 then
          some (-6)
        else
          (Mo_rowBy n v1 v3 v4 I).bind fun x629 =>
          some x629 : Option (Int32)).bind fun x630 =>
      if zIn ((10 * v3) + v4) 10240 then
        Mo_round_L38 n v1 v2 v3 (v4 + 1) (zUp I 88 (Int32.toNatClampNeg ((10 * v3) + v4)) x630)
      else none
theorem s_Mo_round_L38 (d : Nat) (hd : 3 ≤ d) : ∀ (n : Nat) {v1 : Int32} {v2 : Int32} {v3 : Int32} {v4 : Int32} {I : zI}  {I' : zI} {v : Option Value} {h' : zH}, Mo_round_L38 n v1 v2 v3 v4 I = some I' → zEv none d 163 (85, [some (.ref 73), some (.int v1), some (.int v2), some (.int v3), none, none], []) (zHp I') v h' → zEv none d 163 (38, [some (.ref 73), some (.int v1), some (.int v2), some (.int v3), some (.int v4), none], []) (zHp I) v h' := by
  obtain ⟨d, rfl⟩ : ∃ e, d = e + 1 := ⟨d - 1, by omega⟩
  intro n
  induction n with
  | zero => intros; rename_i hf _; cases hf
  | succ n ih =>
    intro v1 v2 v3 v4 I I' v h' hf kk
    rw [Mo_round_L38] at hf
    refine zEv_if 3 (c := 10 ≤ v4) (f1 := (85, [some (.ref 73), some (.int v1), some (.int v2), some (.int v3), some (.int v4), none], [])) (f2 := (45, [some (.ref 73), some (.int v1), some (.int v2), some (.int v3), some (.int v4), none], [])) (h1 := zHp I) (fun n => rfl) (fun hc => ?_) (fun hc => ?_)
    · rw [if_pos hc] at hf
      obtain rfl := Option.some.inj hf
      exact zEv_weak (L := [some (.ref 73), some (.int v1), some (.int v2), some (.int v3), none, none]) (by exact ⟨rfl, ⟨rfl, ⟨rfl, ⟨rfl, ⟨rfl, ⟨rfl, trivial⟩⟩⟩⟩⟩⟩) kk
    · rw [if_neg hc] at hf
      obtain ⟨x620, hx, hf⟩ := Option.bind_eq_some_iff.mp hf
      refine zEv_call 10 (N := 121) (vs := [.int v3, .int v4]) (v1 := some (.int x620)) (h1 := zHp I) (L := [some (.ref 73), some (.int v1), some (.int v2), some (.int v3), some (.int v4), none]) (rest := [.int ((10 * v3) + v4), .ref 88]) (pc := 62) (fun n => rfl) (s_Mo_isIn hx d (by omega)) rfl rfl ?_
      show zEv _ _ _ (62, [some (.ref 73), some (.int v1), some (.int v2), some (.int v3), some (.int v4), none], [.int x620, .int ((10 * v3) + v4), .ref 88]) _ _ _
      obtain ⟨x630, hm_m621, hf⟩ := Option.bind_eq_some_iff.mp hf
      have hJ_m621 : zEv none (d + 1) 163 (78, [some (.ref 73), some (.int v1), some (.int v2), some (.int v3), some (.int v4), none], [.int x630, .int ((10 * v3) + v4), .ref 88]) (zHp I) v h' := by
        obtain ⟨hc, hf⟩ := zGd_inv hf
        refine zEv_gd 1 (c := zIn ((10 * v3) + v4) 10240) (f1 := (79, [some (.ref 73), some (.int v1), some (.int v2), some (.int v3), some (.int v4), none], [])) (h1 := zHp (zUp I 88 (Int32.toNatClampNeg ((10 * v3) + v4)) x630)) (fun n => rfl) hc ?_
        refine zEv_go 2 (f1 := (38, [some (.ref 73), some (.int v1), some (.int v2), some (.int v3), some (.int (v4 + 1)), none], [])) (h1 := zHp (zUp I 88 (Int32.toNatClampNeg ((10 * v3) + v4)) x630)) (fun n => rfl) ?_
        refine zEv_weak (L := [some (.ref 73), some (.int v1), some (.int v2), some (.int v3), some (.int (v4 + 1)), none]) (by exact ⟨rfl, ⟨rfl, ⟨rfl, ⟨rfl, ⟨rfl, ⟨rfl, trivial⟩⟩⟩⟩⟩⟩) ?_
        exact ih hf kk
      clear hf
      refine zEv_if 1 (c := x620 = 0) (f1 := (76, [some (.ref 73), some (.int v1), some (.int v2), some (.int v3), some (.int v4), none], [.int ((10 * v3) + v4), .ref 88])) (f2 := (65, [some (.ref 73), some (.int v1), some (.int v2), some (.int v3), some (.int v4), none], [.int ((10 * v3) + v4), .ref 88])) (h1 := zHp I) (fun n => rfl) (fun hc => ?_) (fun hc => ?_)
      · rw [if_pos hc] at hm_m621
        obtain rfl := Option.some.inj hm_m621
        refine zEv_go 1 (f1 := (78, [some (.ref 73), some (.int v1), some (.int v2), some (.int v3), some (.int v4), none], [.int (-6), .int ((10 * v3) + v4), .ref 88])) (h1 := zHp I) (fun n => rfl) ?_
        exact zEv_weak (L := [some (.ref 73), some (.int v1), some (.int v2), some (.int v3), some (.int v4), none]) (by exact ⟨rfl, ⟨rfl, ⟨rfl, ⟨rfl, ⟨rfl, ⟨rfl, trivial⟩⟩⟩⟩⟩⟩) hJ_m621
      · rw [if_neg hc] at hm_m621
        obtain ⟨x629, hx, hm_m621⟩ := Option.bind_eq_some_iff.mp hm_m621
        refine zEv_call 5 (N := 162) (vs := [.ref 73, .int v1, .int v3, .int v4]) (v1 := some (.int x629)) (h1 := zHp I) (L := [some (.ref 73), some (.int v1), some (.int v2), some (.int v3), some (.int v4), none]) (rest := [.int ((10 * v3) + v4), .ref 88]) (pc := 73) (fun n => rfl) (s_Mo_rowBy hx d (by omega)) rfl rfl ?_
        show zEv _ _ _ (73, [some (.ref 73), some (.int v1), some (.int v2), some (.int v3), some (.int v4), none], [.int x629, .int ((10 * v3) + v4), .ref 88]) _ _ _
        obtain rfl := Option.some.inj hm_m621
        refine zEv_go 1 (f1 := (78, [some (.ref 73), some (.int v1), some (.int v2), some (.int v3), some (.int v4), none], [.int x629, .int ((10 * v3) + v4), .ref 88])) (h1 := zHp I) (fun n => rfl) ?_
        exact zEv_weak (L := [some (.ref 73), some (.int v1), some (.int v2), some (.int v3), some (.int v4), none]) (by exact ⟨rfl, ⟨rfl, ⟨rfl, ⟨rfl, ⟨rfl, ⟨rfl, trivial⟩⟩⟩⟩⟩⟩) hJ_m621
def Mo_round_L30 : Nat → Int32 → Int32 → Int32 → zI → Option (zI)
  | 0, _, _, _, _ => none
  | n + 1, v1, v2, v3, I =>
    if v2 < v3 then
      some I
    else
      (Mo_round_L38 n v1 v2 v3 0 I).bind fun I631 =>
      Mo_round_L30 n v1 v2 (v3 + 1) I631
theorem s_Mo_round_L30 (d : Nat) (hd : 3 ≤ d) : ∀ (n : Nat) {v1 : Int32} {v2 : Int32} {v3 : Int32} {I : zI}  {I' : zI} {v : Option Value} {h' : zH}, Mo_round_L30 n v1 v2 v3 I = some I' → zEv none d 163 (91, [some (.ref 73), some (.int v1), some (.int v2), none, none, none], []) (zHp I') v h' → zEv none d 163 (30, [some (.ref 73), some (.int v1), some (.int v2), some (.int v3), none, none], []) (zHp I) v h' := by
  obtain ⟨d, rfl⟩ : ∃ e, d = e + 1 := ⟨d - 1, by omega⟩
  intro n
  induction n with
  | zero => intros; rename_i hf _; cases hf
  | succ n ih =>
    intro v1 v2 v3 I I' v h' hf kk
    rw [Mo_round_L30] at hf
    refine zEv_if 3 (c := v2 < v3) (f1 := (91, [some (.ref 73), some (.int v1), some (.int v2), some (.int v3), none, none], [])) (f2 := (35, [some (.ref 73), some (.int v1), some (.int v2), some (.int v3), none, none], [])) (h1 := zHp I) (fun n => rfl) (fun hc => ?_) (fun hc => ?_)
    · rw [if_pos hc] at hf
      obtain rfl := Option.some.inj hf
      exact zEv_weak (L := [some (.ref 73), some (.int v1), some (.int v2), none, none, none]) (by exact ⟨rfl, ⟨rfl, ⟨rfl, ⟨rfl, ⟨rfl, ⟨rfl, trivial⟩⟩⟩⟩⟩⟩) kk
    · rw [if_neg hc] at hf
      obtain ⟨I631, hx, hf⟩ := Option.bind_eq_some_iff.mp hf
      refine zEv_go 2 (f1 := (38, [some (.ref 73), some (.int v1), some (.int v2), some (.int v3), some (.int 0), none], [])) (h1 := zHp I) (fun n => rfl) ?_
      refine zEv_weak (L := [some (.ref 73), some (.int v1), some (.int v2), some (.int v3), some (.int 0), none]) (by exact ⟨rfl, ⟨rfl, ⟨rfl, ⟨rfl, ⟨rfl, ⟨rfl, trivial⟩⟩⟩⟩⟩⟩) (s_Mo_round_L38 (d + 1) (by omega) n hx ?_)
      refine zEv_go 2 (f1 := (30, [some (.ref 73), some (.int v1), some (.int v2), some (.int (v3 + 1)), none, none], [])) (h1 := zHp I631) (fun n => rfl) ?_
      refine zEv_weak (L := [some (.ref 73), some (.int v1), some (.int v2), some (.int (v3 + 1)), none, none]) (by exact ⟨rfl, ⟨rfl, ⟨rfl, ⟨rfl, ⟨rfl, ⟨rfl, trivial⟩⟩⟩⟩⟩⟩) ?_
      exact ih hf kk
def Mo_round (n : Nat) (a0 : Int32) (a1 : Int32) (I : zI) : Option (Int32 × zI) :=
  (Mo_isBench a0 I).bind fun x615 =>
  if x615 = 0 then
    some ((-1), I)
  else
    (Mo_in (Int32.toInt64 a1) 0 1023 I).bind fun x616 =>
    if x616 = 0 then
      some ((-2), I)
    else
      (Mo_findOff n I).bind fun I619 =>
      (Mo_round_L30 n a0 a1 1 I619).bind fun I632 =>
      (
        if a1 = 0 then
          some 0
        else
          some (-6) : Option (Int32)).bind fun x634 =>
      (Mo_round_L105 n a0 a1 x634 0 I632).bind fun x641 =>
      some (x641, I632)
theorem s_Mo_round {n : Nat} {a0 : Int32} {a1 : Int32} {I : zI} {r : Int32} {I' : zI} (hf : Mo_round n a0 a1 I = some (r, I')) (d : Nat) (hd : 3 ≤ d) : zCall d 163 [.ref 73, .int a0, .int a1] (zHp I) (some (.int r)) (zHp I') := by
  obtain ⟨d, rfl⟩ : ∃ e, d = e + 1 := ⟨d - 1, by omega⟩
  rw [Mo_round] at hf
  show zEv _ _ _ (0, [some (.ref 73), some (.int a0), some (.int a1), none, none, none], []) _ _ _
  obtain ⟨x615, hx, hf⟩ := Option.bind_eq_some_iff.mp hf
  refine zEv_call 2 (N := 118) (vs := [.int a0]) (v1 := some (.int x615)) (h1 := zHp I) (L := [some (.ref 73), some (.int a0), some (.int a1), none, none, none]) (rest := []) (pc := 4) (fun n => rfl) (s_Mo_isBench hx d (by omega)) rfl rfl ?_
  show zEv _ _ _ (4, [some (.ref 73), some (.int a0), some (.int a1), none, none, none], [.int x615]) _ _ _
  refine zEv_if 1 (c := x615 = 0) (f1 := (7, [some (.ref 73), some (.int a0), some (.int a1), none, none, none], [])) (f2 := (9, [some (.ref 73), some (.int a0), some (.int a1), none, none, none], [])) (h1 := zHp I) (fun n => rfl) (fun hc => ?_) (fun hc => ?_)
  · rw [if_pos hc] at hf
    cases hf
    exact zEv_ret 2 (fun n => rfl)
  · rw [if_neg hc] at hf
    obtain ⟨x616, hx, hf⟩ := Option.bind_eq_some_iff.mp hf
    refine zEv_call 5 (N := 117) (vs := [.long (Int32.toInt64 a1), .long 0, .long 1023]) (v1 := some (.int x616)) (h1 := zHp I) (L := [some (.ref 73), some (.int a0), some (.int a1), none, none, none]) (rest := []) (pc := 18) (fun n => rfl) (s_Mo_in hx d (by omega)) rfl rfl ?_
    show zEv _ _ _ (18, [some (.ref 73), some (.int a0), some (.int a1), none, none, none], [.int x616]) _ _ _
    refine zEv_if 1 (c := x616 = 0) (f1 := (21, [some (.ref 73), some (.int a0), some (.int a1), none, none, none], [])) (f2 := (24, [some (.ref 73), some (.int a0), some (.int a1), none, none, none], [])) (h1 := zHp I) (fun n => rfl) (fun hc => ?_) (fun hc => ?_)
    · rw [if_pos hc] at hf
      cases hf
      exact zEv_ret 2 (fun n => rfl)
    · rw [if_neg hc] at hf
      obtain ⟨I619, hx, hf⟩ := Option.bind_eq_some_iff.mp hf
      refine zEv_call 2 (N := 160) (vs := [.ref 73]) (v1 := none) (h1 := zHp I619) (L := [some (.ref 73), some (.int a0), some (.int a1), none, none, none]) (rest := []) (pc := 28) (fun n => rfl) (s_Mo_findOff hx d (by omega)) rfl rfl ?_
      show zEv _ _ _ (28, [some (.ref 73), some (.int a0), some (.int a1), none, none, none], []) _ _ _
      obtain ⟨I632, hx, hf⟩ := Option.bind_eq_some_iff.mp hf
      refine zEv_go 2 (f1 := (30, [some (.ref 73), some (.int a0), some (.int a1), some (.int 1), none, none], [])) (h1 := zHp I619) (fun n => rfl) ?_
      refine zEv_weak (L := [some (.ref 73), some (.int a0), some (.int a1), some (.int 1), none, none]) (by exact ⟨rfl, ⟨rfl, ⟨rfl, ⟨rfl, ⟨rfl, ⟨rfl, trivial⟩⟩⟩⟩⟩⟩) (s_Mo_round_L30 (d + 1) (by omega) n hx ?_)
      obtain ⟨x634, hm_m633, hf⟩ := Option.bind_eq_some_iff.mp hf
      have hJ_m633 : zEv none (d + 1) 163 (101, [some (.ref 73), some (.int a0), some (.int a1), none, none, none], [.int x634]) (zHp I632) (some (.int r)) (zHp I') := by
        obtain ⟨x641, hx, hf⟩ := Option.bind_eq_some_iff.mp hf
        refine zEv_go 3 (f1 := (105, [some (.ref 73), some (.int a0), some (.int a1), some (.int x634), some (.int 0), none], [])) (h1 := zHp I632) (fun n => rfl) ?_
        refine zEv_weak (L := [some (.ref 73), some (.int a0), some (.int a1), some (.int x634), some (.int 0), none]) (by exact ⟨rfl, ⟨rfl, ⟨rfl, ⟨rfl, ⟨rfl, ⟨rfl, trivial⟩⟩⟩⟩⟩⟩) (s_Mo_round_L105 (d + 1) (by omega) n hx ?_)
        cases hf
        exact zEv_ret 2 (fun n => rfl)
      clear hf
      refine zEv_if 2 (c := a1 = 0) (f1 := (95, [some (.ref 73), some (.int a0), some (.int a1), none, none, none], [])) (f2 := (99, [some (.ref 73), some (.int a0), some (.int a1), none, none, none], [])) (h1 := zHp I632) (fun n => rfl) (fun hc => ?_) (fun hc => ?_)
      · rw [if_pos hc] at hm_m633
        obtain rfl := Option.some.inj hm_m633
        refine zEv_go 2 (f1 := (101, [some (.ref 73), some (.int a0), some (.int a1), none, none, none], [.int 0])) (h1 := zHp I632) (fun n => rfl) ?_
        exact zEv_weak (L := [some (.ref 73), some (.int a0), some (.int a1), none, none, none]) (by exact ⟨rfl, ⟨rfl, ⟨rfl, ⟨rfl, ⟨rfl, ⟨rfl, trivial⟩⟩⟩⟩⟩⟩) hJ_m633
      · rw [if_neg hc] at hm_m633
        obtain rfl := Option.some.inj hm_m633
        refine zEv_go 1 (f1 := (101, [some (.ref 73), some (.int a0), some (.int a1), none, none, none], [.int (-6)])) (h1 := zHp I632) (fun n => rfl) ?_
        exact zEv_weak (L := [some (.ref 73), some (.int a0), some (.int a1), none, none, none]) (by exact ⟨rfl, ⟨rfl, ⟨rfl, ⟨rfl, ⟨rfl, ⟨rfl, trivial⟩⟩⟩⟩⟩⟩) hJ_m633
def Mo_goesOn_L5 : Nat → Int32 → Int32 → Int32 → Int32 → zI → Option (Int32)
  | 0, _, _, _, _, _ => none
  | n + 1, v1, v2, v3, v4, I =>
    if 10 ≤ v4 then
      some v3
    else
      if zIn v2 10 then
        (Mo_isIn (I 74 (Int32.toNatClampNeg v2)) v4 I).bind fun x646 =>
        (
          if x646 = 0 then
            some 0
          else
            (Mo_isIn v1 v4 I).bind fun x648 =>
            if x648 = 0 then
              some 1
            else
              some 0 : Option (Int32)).bind fun x649 =>
        (
          if x649 = 0 then
            some 0
          else
            (
              if x649 = 0 then
                some 0
              else
                some (zShl 1 v4) : Option (Int32)).bind fun x652 =>
            if zIn ((10 * (v1 ||| x652)) + v4) 10240 then
              some (1 + (I 88 (Int32.toNatClampNeg ((10 * (v1 ||| x652)) + v4))))
            else none : Option (Int32)).bind fun x653 =>
        (
          if x653 ≤ v3 then
            some v3
          else
            some x653 : Option (Int32)).bind fun x655 =>
        Mo_goesOn_L5 n v1 v2 x655 (v4 + 1) I
      else none
theorem s_Mo_goesOn_L5 (d : Nat) (hd : 1 ≤ d) : ∀ (n : Nat) {v1 : Int32} {v2 : Int32} {v3 : Int32} {v4 : Int32} {I : zI} {y3 : Int32} {v : Option Value} {h' : zH}, Mo_goesOn_L5 n v1 v2 v3 v4 I = some y3 → zEv none d 164 (100, [some (.ref 73), none, none, some (.int y3), none, none, none], []) (zHp I) v h' → zEv none d 164 (5, [some (.ref 73), some (.int v1), some (.int v2), some (.int v3), some (.int v4), none, none], []) (zHp I) v h' := by
  obtain ⟨d, rfl⟩ : ∃ e, d = e + 1 := ⟨d - 1, by omega⟩
  intro n
  induction n with
  | zero => intros; rename_i hf _; cases hf
  | succ n ih =>
    intro v1 v2 v3 v4 I y3 v h' hf kk
    rw [Mo_goesOn_L5] at hf
    refine zEv_if 3 (c := 10 ≤ v4) (f1 := (100, [some (.ref 73), some (.int v1), some (.int v2), some (.int v3), some (.int v4), none, none], [])) (f2 := (12, [some (.ref 73), some (.int v1), some (.int v2), some (.int v3), some (.int v4), none, none], [])) (h1 := zHp I) (fun n => rfl) (fun hc => ?_) (fun hc => ?_)
    · rw [if_pos hc] at hf
      obtain rfl := Option.some.inj hf
      exact zEv_weak (L := [some (.ref 73), none, none, some (.int v3), none, none, none]) (by exact ⟨rfl, ⟨rfl, ⟨rfl, ⟨rfl, ⟨rfl, ⟨rfl, ⟨rfl, trivial⟩⟩⟩⟩⟩⟩⟩) kk
    · rw [if_neg hc] at hf
      obtain ⟨hc, hf⟩ := zGd_inv hf
      refine zEv_gd 4 (c := zIn v2 10) (f1 := (18, [some (.ref 73), some (.int v1), some (.int v2), some (.int v3), some (.int v4), none, none], [.int (I 74 (Int32.toNatClampNeg v2))])) (h1 := zHp I) (fun n => rfl) hc ?_
      obtain ⟨x646, hx, hf⟩ := Option.bind_eq_some_iff.mp hf
      refine zEv_call 2 (N := 121) (vs := [.int (I 74 (Int32.toNatClampNeg v2)), .int v4]) (v1 := some (.int x646)) (h1 := zHp I) (L := [some (.ref 73), some (.int v1), some (.int v2), some (.int v3), some (.int v4), none, none]) (rest := []) (pc := 23) (fun n => rfl) (s_Mo_isIn hx d (by omega)) rfl rfl ?_
      show zEv _ _ _ (23, [some (.ref 73), some (.int v1), some (.int v2), some (.int v3), some (.int v4), none, none], [.int x646]) _ _ _
      obtain ⟨x649, hm_m647, hf⟩ := Option.bind_eq_some_iff.mp hf
      have hJ_m647 : zEv none (d + 1) 164 (40, [some (.ref 73), some (.int v1), some (.int v2), some (.int v3), some (.int v4), none, none], [.int x649]) (zHp I) v h' := by
        obtain ⟨x653, hm_m650, hf⟩ := Option.bind_eq_some_iff.mp hf
        have hJ_m650 : zEv none (d + 1) 164 (79, [some (.ref 73), some (.int v1), some (.int v2), some (.int v3), some (.int v4), none, none], [.int x653]) (zHp I) v h' := by
          obtain ⟨x655, hm_m654, hf⟩ := Option.bind_eq_some_iff.mp hf
          have hJ_m654 : zEv none (d + 1) 164 (93, [some (.ref 73), some (.int v1), some (.int v2), none, some (.int v4), none, none], [.int x655]) (zHp I) v h' := by
            refine zEv_go 3 (f1 := (5, [some (.ref 73), some (.int v1), some (.int v2), some (.int x655), some (.int (v4 + 1)), none, none], [])) (h1 := zHp I) (fun n => rfl) ?_
            refine zEv_weak (L := [some (.ref 73), some (.int v1), some (.int v2), some (.int x655), some (.int (v4 + 1)), none, none]) (by exact ⟨rfl, ⟨rfl, ⟨rfl, ⟨rfl, ⟨rfl, ⟨rfl, ⟨rfl, trivial⟩⟩⟩⟩⟩⟩⟩) ?_
            exact ih hf kk
          clear hf
          refine zEv_if 4 (c := x653 ≤ v3) (f1 := (92, [some (.ref 73), some (.int v1), some (.int v2), some (.int v3), some (.int v4), none, some (.int x653)], [])) (f2 := (87, [some (.ref 73), some (.int v1), some (.int v2), some (.int v3), some (.int v4), none, some (.int x653)], [])) (h1 := zHp I) (fun n => rfl) (fun hc => ?_) (fun hc => ?_)
          · rw [if_pos hc] at hm_m654
            obtain rfl := Option.some.inj hm_m654
            refine zEv_go 1 (f1 := (93, [some (.ref 73), some (.int v1), some (.int v2), some (.int v3), some (.int v4), none, some (.int x653)], [.int v3])) (h1 := zHp I) (fun n => rfl) ?_
            exact zEv_weak (L := [some (.ref 73), some (.int v1), some (.int v2), none, some (.int v4), none, none]) (by exact ⟨rfl, ⟨rfl, ⟨rfl, ⟨rfl, ⟨rfl, ⟨rfl, ⟨rfl, trivial⟩⟩⟩⟩⟩⟩⟩) hJ_m654
          · rw [if_neg hc] at hm_m654
            obtain rfl := Option.some.inj hm_m654
            refine zEv_go 2 (f1 := (93, [some (.ref 73), some (.int v1), some (.int v2), some (.int v3), some (.int v4), none, some (.int x653)], [.int x653])) (h1 := zHp I) (fun n => rfl) ?_
            exact zEv_weak (L := [some (.ref 73), some (.int v1), some (.int v2), none, some (.int v4), none, none]) (by exact ⟨rfl, ⟨rfl, ⟨rfl, ⟨rfl, ⟨rfl, ⟨rfl, ⟨rfl, trivial⟩⟩⟩⟩⟩⟩⟩) hJ_m654
        clear hf
        refine zEv_if 3 (c := x649 = 0) (f1 := (78, [some (.ref 73), some (.int v1), some (.int v2), some (.int v3), some (.int v4), some (.int x649), none], [])) (f2 := (47, [some (.ref 73), some (.int v1), some (.int v2), some (.int v3), some (.int v4), some (.int x649), none], [])) (h1 := zHp I) (fun n => rfl) (fun hc => ?_) (fun hc => ?_)
        · rw [if_pos hc] at hm_m650
          obtain rfl := Option.some.inj hm_m650
          refine zEv_go 1 (f1 := (79, [some (.ref 73), some (.int v1), some (.int v2), some (.int v3), some (.int v4), some (.int x649), none], [.int 0])) (h1 := zHp I) (fun n => rfl) ?_
          exact zEv_weak (L := [some (.ref 73), some (.int v1), some (.int v2), some (.int v3), some (.int v4), none, none]) (by exact ⟨rfl, ⟨rfl, ⟨rfl, ⟨rfl, ⟨rfl, ⟨rfl, ⟨rfl, trivial⟩⟩⟩⟩⟩⟩⟩) hJ_m650
        · rw [if_neg hc] at hm_m650
          obtain ⟨x652, hm_m651, hm_m650⟩ := Option.bind_eq_some_iff.mp hm_m650
          have hJ_m651 : zEv none (d + 1) 164 (68, [some (.ref 73), some (.int v1), some (.int v2), some (.int v3), some (.int v4), none, none], [.int x652, .int v1, .int 10, .ref 88, .int 1]) (zHp I) v h' := by
            obtain ⟨hc, hm_m650⟩ := zGd_inv hm_m650
            refine zEv_gd 5 (c := zIn ((10 * (v1 ||| x652)) + v4) 10240) (f1 := (74, [some (.ref 73), some (.int v1), some (.int v2), some (.int v3), some (.int v4), none, none], [.int (I 88 (Int32.toNatClampNeg ((10 * (v1 ||| x652)) + v4))), .int 1])) (h1 := zHp I) (fun n => rfl) hc ?_
            obtain rfl := Option.some.inj hm_m650
            refine zEv_go 2 (f1 := (79, [some (.ref 73), some (.int v1), some (.int v2), some (.int v3), some (.int v4), none, none], [.int (1 + (I 88 (Int32.toNatClampNeg ((10 * (v1 ||| x652)) + v4))))])) (h1 := zHp I) (fun n => rfl) ?_
            exact zEv_weak (L := [some (.ref 73), some (.int v1), some (.int v2), some (.int v3), some (.int v4), none, none]) (by exact ⟨rfl, ⟨rfl, ⟨rfl, ⟨rfl, ⟨rfl, ⟨rfl, ⟨rfl, trivial⟩⟩⟩⟩⟩⟩⟩) hJ_m650
          clear hm_m650
          refine zEv_if 7 (c := x649 = 0) (f1 := (67, [some (.ref 73), some (.int v1), some (.int v2), some (.int v3), some (.int v4), some (.int x649), none], [.int v1, .int 10, .ref 88, .int 1])) (f2 := (60, [some (.ref 73), some (.int v1), some (.int v2), some (.int v3), some (.int v4), some (.int x649), none], [.int v1, .int 10, .ref 88, .int 1])) (h1 := zHp I) (fun n => rfl) (fun hc => ?_) (fun hc => ?_)
          · rw [if_pos hc] at hm_m651
            obtain rfl := Option.some.inj hm_m651
            refine zEv_go 1 (f1 := (68, [some (.ref 73), some (.int v1), some (.int v2), some (.int v3), some (.int v4), some (.int x649), none], [.int 0, .int v1, .int 10, .ref 88, .int 1])) (h1 := zHp I) (fun n => rfl) ?_
            exact zEv_weak (L := [some (.ref 73), some (.int v1), some (.int v2), some (.int v3), some (.int v4), none, none]) (by exact ⟨rfl, ⟨rfl, ⟨rfl, ⟨rfl, ⟨rfl, ⟨rfl, ⟨rfl, trivial⟩⟩⟩⟩⟩⟩⟩) hJ_m651
          · rw [if_neg hc] at hm_m651
            obtain rfl := Option.some.inj hm_m651
            refine zEv_go 4 (f1 := (68, [some (.ref 73), some (.int v1), some (.int v2), some (.int v3), some (.int v4), some (.int x649), none], [.int (zShl 1 v4), .int v1, .int 10, .ref 88, .int 1])) (h1 := zHp I) (fun n => rfl) ?_
            exact zEv_weak (L := [some (.ref 73), some (.int v1), some (.int v2), some (.int v3), some (.int v4), none, none]) (by exact ⟨rfl, ⟨rfl, ⟨rfl, ⟨rfl, ⟨rfl, ⟨rfl, ⟨rfl, trivial⟩⟩⟩⟩⟩⟩⟩) hJ_m651
      clear hf
      refine zEv_if 1 (c := x646 = 0) (f1 := (39, [some (.ref 73), some (.int v1), some (.int v2), some (.int v3), some (.int v4), none, none], [])) (f2 := (26, [some (.ref 73), some (.int v1), some (.int v2), some (.int v3), some (.int v4), none, none], [])) (h1 := zHp I) (fun n => rfl) (fun hc => ?_) (fun hc => ?_)
      · rw [if_pos hc] at hm_m647
        obtain rfl := Option.some.inj hm_m647
        refine zEv_go 1 (f1 := (40, [some (.ref 73), some (.int v1), some (.int v2), some (.int v3), some (.int v4), none, none], [.int 0])) (h1 := zHp I) (fun n => rfl) ?_
        exact zEv_weak (L := [some (.ref 73), some (.int v1), some (.int v2), some (.int v3), some (.int v4), none, none]) (by exact ⟨rfl, ⟨rfl, ⟨rfl, ⟨rfl, ⟨rfl, ⟨rfl, ⟨rfl, trivial⟩⟩⟩⟩⟩⟩⟩) hJ_m647
      · rw [if_neg hc] at hm_m647
        obtain ⟨x648, hx, hm_m647⟩ := Option.bind_eq_some_iff.mp hm_m647
        refine zEv_call 3 (N := 121) (vs := [.int v1, .int v4]) (v1 := some (.int x648)) (h1 := zHp I) (L := [some (.ref 73), some (.int v1), some (.int v2), some (.int v3), some (.int v4), none, none]) (rest := []) (pc := 32) (fun n => rfl) (s_Mo_isIn hx d (by omega)) rfl rfl ?_
        show zEv _ _ _ (32, [some (.ref 73), some (.int v1), some (.int v2), some (.int v3), some (.int v4), none, none], [.int x648]) _ _ _
        refine zEv_if 1 (c := x648 = 0) (f1 := (35, [some (.ref 73), some (.int v1), some (.int v2), some (.int v3), some (.int v4), none, none], [])) (f2 := (39, [some (.ref 73), some (.int v1), some (.int v2), some (.int v3), some (.int v4), none, none], [])) (h1 := zHp I) (fun n => rfl) (fun hc => ?_) (fun hc => ?_)
        · rw [if_pos hc] at hm_m647
          obtain rfl := Option.some.inj hm_m647
          refine zEv_go 2 (f1 := (40, [some (.ref 73), some (.int v1), some (.int v2), some (.int v3), some (.int v4), none, none], [.int 1])) (h1 := zHp I) (fun n => rfl) ?_
          exact zEv_weak (L := [some (.ref 73), some (.int v1), some (.int v2), some (.int v3), some (.int v4), none, none]) (by exact ⟨rfl, ⟨rfl, ⟨rfl, ⟨rfl, ⟨rfl, ⟨rfl, ⟨rfl, trivial⟩⟩⟩⟩⟩⟩⟩) hJ_m647
        · rw [if_neg hc] at hm_m647
          obtain rfl := Option.some.inj hm_m647
          refine zEv_go 1 (f1 := (40, [some (.ref 73), some (.int v1), some (.int v2), some (.int v3), some (.int v4), none, none], [.int 0])) (h1 := zHp I) (fun n => rfl) ?_
          exact zEv_weak (L := [some (.ref 73), some (.int v1), some (.int v2), some (.int v3), some (.int v4), none, none]) (by exact ⟨rfl, ⟨rfl, ⟨rfl, ⟨rfl, ⟨rfl, ⟨rfl, ⟨rfl, trivial⟩⟩⟩⟩⟩⟩⟩) hJ_m647
def Mo_goesOn (n : Nat) (a0 : Int32) (a1 : Int32) (I : zI) : Option (Int32) :=
  (Mo_goesOn_L5 n a0 a1 0 0 I).bind fun x656 =>
  some x656
theorem s_Mo_goesOn {n : Nat} {a0 : Int32} {a1 : Int32} {I : zI} {r : Int32} (hf : Mo_goesOn n a0 a1 I = some r) (d : Nat) (hd : 1 ≤ d) : zCall d 164 [.ref 73, .int a0, .int a1] (zHp I) (some (.int r)) (zHp I) := by
  obtain ⟨d, rfl⟩ : ∃ e, d = e + 1 := ⟨d - 1, by omega⟩
  rw [Mo_goesOn] at hf
  show zEv _ _ _ (0, [some (.ref 73), some (.int a0), some (.int a1), none, none, none, none], []) _ _ _
  obtain ⟨x656, hx, hf⟩ := Option.bind_eq_some_iff.mp hf
  refine zEv_go 4 (f1 := (5, [some (.ref 73), some (.int a0), some (.int a1), some (.int 0), some (.int 0), none, none], [])) (h1 := zHp I) (fun n => rfl) ?_
  refine zEv_weak (L := [some (.ref 73), some (.int a0), some (.int a1), some (.int 0), some (.int 0), none, none]) (by exact ⟨rfl, ⟨rfl, ⟨rfl, ⟨rfl, ⟨rfl, ⟨rfl, ⟨rfl, trivial⟩⟩⟩⟩⟩⟩⟩) (s_Mo_goesOn_L5 (d + 1) (by omega) n hx ?_)
  cases hf
  exact zEv_ret 2 (fun n => rfl)
def Mo_walk_L128 : Nat → Int32 → Int32 → Int32 → Int32 → Int32 → Int32 → zI → Option (Int32)
  | 0, _, _, _, _, _, _, _ => none
  | n + 1, v3, v4, v5, v6, v7, v8, I =>
    if v8 < 0 then
      some v7
    else
      if zIn v4 10 then
        (Mo_isIn (I 74 (Int32.toNatClampNeg v4)) v8 I).bind fun x661 =>
        (
          if x661 = 0 then
            some 0
          else
            (Mo_isIn v3 v8 I).bind fun x663 =>
            if x663 = 0 then
              if zIn ((10 * (v3 ||| (zShl 1 v8))) + v8) 10240 then
                if (I 88 (Int32.toNatClampNeg ((10 * (v3 ||| (zShl 1 v8))) + v8))) = (v5 - 1) then
                  some 1
                else
                  some 0
              else none
            else
              some 0 : Option (Int32)).bind fun x664 =>
        (
          if x664 = 0 then
            some v7
          else
            some v8 : Option (Int32)).bind fun x666 =>
        Mo_walk_L128 n v3 v4 v5 v6 x666 (v8 + (-1)) I
      else none
theorem s_Mo_walk_L128 (d : Nat) (hd : 2 ≤ d) : ∀ (n : Nat) {v3 : Int32} {v4 : Int32} {v5 : Int32} {v6 : Int32} {v7 : Int32} {v8 : Int32} {I : zI} {y7 : Int32} {v : Option Value} {h' : zH}, Mo_walk_L128 n v3 v4 v5 v6 v7 v8 I = some y7 → zEv none d 165 (208, [some (.ref 73), none, none, some (.int v3), none, some (.int v5), some (.int v6), some (.int y7), none, none], []) (zHp I) v h' → zEv none d 165 (128, [some (.ref 73), none, none, some (.int v3), some (.int v4), some (.int v5), some (.int v6), some (.int v7), some (.int v8), none], []) (zHp I) v h' := by
  obtain ⟨d, rfl⟩ : ∃ e, d = e + 1 := ⟨d - 1, by omega⟩
  intro n
  induction n with
  | zero => intros; rename_i hf _; cases hf
  | succ n ih =>
    intro v3 v4 v5 v6 v7 v8 I y7 v h' hf kk
    rw [Mo_walk_L128] at hf
    refine zEv_if 2 (c := v8 < 0) (f1 := (208, [some (.ref 73), none, none, some (.int v3), some (.int v4), some (.int v5), some (.int v6), some (.int v7), some (.int v8), none], [])) (f2 := (133, [some (.ref 73), none, none, some (.int v3), some (.int v4), some (.int v5), some (.int v6), some (.int v7), some (.int v8), none], [])) (h1 := zHp I) (fun n => rfl) (fun hc => ?_) (fun hc => ?_)
    · rw [if_pos hc] at hf
      obtain rfl := Option.some.inj hf
      exact zEv_weak (L := [some (.ref 73), none, none, some (.int v3), none, some (.int v5), some (.int v6), some (.int v7), none, none]) (by exact ⟨rfl, ⟨rfl, ⟨rfl, ⟨rfl, ⟨rfl, ⟨rfl, ⟨rfl, ⟨rfl, ⟨rfl, ⟨rfl, trivial⟩⟩⟩⟩⟩⟩⟩⟩⟩⟩) kk
    · rw [if_neg hc] at hf
      obtain ⟨hc, hf⟩ := zGd_inv hf
      refine zEv_gd 4 (c := zIn v4 10) (f1 := (140, [some (.ref 73), none, none, some (.int v3), some (.int v4), some (.int v5), some (.int v6), some (.int v7), some (.int v8), none], [.int (I 74 (Int32.toNatClampNeg v4))])) (h1 := zHp I) (fun n => rfl) hc ?_
      obtain ⟨x661, hx, hf⟩ := Option.bind_eq_some_iff.mp hf
      refine zEv_call 2 (N := 121) (vs := [.int (I 74 (Int32.toNatClampNeg v4)), .int v8]) (v1 := some (.int x661)) (h1 := zHp I) (L := [some (.ref 73), none, none, some (.int v3), some (.int v4), some (.int v5), some (.int v6), some (.int v7), some (.int v8), none]) (rest := []) (pc := 145) (fun n => rfl) (s_Mo_isIn hx d (by omega)) rfl rfl ?_
      show zEv _ _ _ (145, [some (.ref 73), none, none, some (.int v3), some (.int v4), some (.int v5), some (.int v6), some (.int v7), some (.int v8), none], [.int x661]) _ _ _
      obtain ⟨x664, hm_m662, hf⟩ := Option.bind_eq_some_iff.mp hf
      have hJ_m662 : zEv none (d + 1) 165 (186, [some (.ref 73), none, none, some (.int v3), some (.int v4), some (.int v5), some (.int v6), some (.int v7), some (.int v8), none], [.int x664]) (zHp I) v h' := by
        obtain ⟨x666, hm_m665, hf⟩ := Option.bind_eq_some_iff.mp hf
        have hJ_m665 : zEv none (d + 1) 165 (200, [some (.ref 73), none, none, some (.int v3), some (.int v4), some (.int v5), some (.int v6), none, some (.int v8), none], [.int x666]) (zHp I) v h' := by
          refine zEv_go 3 (f1 := (128, [some (.ref 73), none, none, some (.int v3), some (.int v4), some (.int v5), some (.int v6), some (.int x666), some (.int (v8 + (-1))), none], [])) (h1 := zHp I) (fun n => rfl) ?_
          refine zEv_weak (L := [some (.ref 73), none, none, some (.int v3), some (.int v4), some (.int v5), some (.int v6), some (.int x666), some (.int (v8 + (-1))), none]) (by exact ⟨rfl, ⟨rfl, ⟨rfl, ⟨rfl, ⟨rfl, ⟨rfl, ⟨rfl, ⟨rfl, ⟨rfl, ⟨rfl, trivial⟩⟩⟩⟩⟩⟩⟩⟩⟩⟩) ?_
          exact ih hf kk
        clear hf
        refine zEv_if 3 (c := x664 = 0) (f1 := (198, [some (.ref 73), none, none, some (.int v3), some (.int v4), some (.int v5), some (.int v6), some (.int v7), some (.int v8), some (.int x664)], [])) (f2 := (193, [some (.ref 73), none, none, some (.int v3), some (.int v4), some (.int v5), some (.int v6), some (.int v7), some (.int v8), some (.int x664)], [])) (h1 := zHp I) (fun n => rfl) (fun hc => ?_) (fun hc => ?_)
        · rw [if_pos hc] at hm_m665
          obtain rfl := Option.some.inj hm_m665
          refine zEv_go 1 (f1 := (200, [some (.ref 73), none, none, some (.int v3), some (.int v4), some (.int v5), some (.int v6), some (.int v7), some (.int v8), some (.int x664)], [.int v7])) (h1 := zHp I) (fun n => rfl) ?_
          exact zEv_weak (L := [some (.ref 73), none, none, some (.int v3), some (.int v4), some (.int v5), some (.int v6), none, some (.int v8), none]) (by exact ⟨rfl, ⟨rfl, ⟨rfl, ⟨rfl, ⟨rfl, ⟨rfl, ⟨rfl, ⟨rfl, ⟨rfl, ⟨rfl, trivial⟩⟩⟩⟩⟩⟩⟩⟩⟩⟩) hJ_m665
        · rw [if_neg hc] at hm_m665
          obtain rfl := Option.some.inj hm_m665
          refine zEv_go 2 (f1 := (200, [some (.ref 73), none, none, some (.int v3), some (.int v4), some (.int v5), some (.int v6), some (.int v7), some (.int v8), some (.int x664)], [.int v8])) (h1 := zHp I) (fun n => rfl) ?_
          exact zEv_weak (L := [some (.ref 73), none, none, some (.int v3), some (.int v4), some (.int v5), some (.int v6), none, some (.int v8), none]) (by exact ⟨rfl, ⟨rfl, ⟨rfl, ⟨rfl, ⟨rfl, ⟨rfl, ⟨rfl, ⟨rfl, ⟨rfl, ⟨rfl, trivial⟩⟩⟩⟩⟩⟩⟩⟩⟩⟩) hJ_m665
      clear hf
      refine zEv_if 1 (c := x661 = 0) (f1 := (185, [some (.ref 73), none, none, some (.int v3), some (.int v4), some (.int v5), some (.int v6), some (.int v7), some (.int v8), none], [])) (f2 := (148, [some (.ref 73), none, none, some (.int v3), some (.int v4), some (.int v5), some (.int v6), some (.int v7), some (.int v8), none], [])) (h1 := zHp I) (fun n => rfl) (fun hc => ?_) (fun hc => ?_)
      · rw [if_pos hc] at hm_m662
        obtain rfl := Option.some.inj hm_m662
        refine zEv_go 1 (f1 := (186, [some (.ref 73), none, none, some (.int v3), some (.int v4), some (.int v5), some (.int v6), some (.int v7), some (.int v8), none], [.int 0])) (h1 := zHp I) (fun n => rfl) ?_
        exact zEv_weak (L := [some (.ref 73), none, none, some (.int v3), some (.int v4), some (.int v5), some (.int v6), some (.int v7), some (.int v8), none]) (by exact ⟨rfl, ⟨rfl, ⟨rfl, ⟨rfl, ⟨rfl, ⟨rfl, ⟨rfl, ⟨rfl, ⟨rfl, ⟨rfl, trivial⟩⟩⟩⟩⟩⟩⟩⟩⟩⟩) hJ_m662
      · rw [if_neg hc] at hm_m662
        obtain ⟨x663, hx, hm_m662⟩ := Option.bind_eq_some_iff.mp hm_m662
        refine zEv_call 3 (N := 121) (vs := [.int v3, .int v8]) (v1 := some (.int x663)) (h1 := zHp I) (L := [some (.ref 73), none, none, some (.int v3), some (.int v4), some (.int v5), some (.int v6), some (.int v7), some (.int v8), none]) (rest := []) (pc := 154) (fun n => rfl) (s_Mo_isIn hx d (by omega)) rfl rfl ?_
        show zEv _ _ _ (154, [some (.ref 73), none, none, some (.int v3), some (.int v4), some (.int v5), some (.int v6), some (.int v7), some (.int v8), none], [.int x663]) _ _ _
        refine zEv_if 1 (c := x663 = 0) (f1 := (157, [some (.ref 73), none, none, some (.int v3), some (.int v4), some (.int v5), some (.int v6), some (.int v7), some (.int v8), none], [])) (f2 := (185, [some (.ref 73), none, none, some (.int v3), some (.int v4), some (.int v5), some (.int v6), some (.int v7), some (.int v8), none], [])) (h1 := zHp I) (fun n => rfl) (fun hc => ?_) (fun hc => ?_)
        · rw [if_pos hc] at hm_m662
          obtain ⟨hc, hm_m662⟩ := zGd_inv hm_m662
          refine zEv_gd 12 (c := zIn ((10 * (v3 ||| (zShl 1 v8))) + v8) 10240) (f1 := (174, [some (.ref 73), none, none, some (.int v3), some (.int v4), some (.int v5), some (.int v6), some (.int v7), some (.int v8), none], [.int (I 88 (Int32.toNatClampNeg ((10 * (v3 ||| (zShl 1 v8))) + v8)))])) (h1 := zHp I) (fun n => rfl) hc ?_
          refine zEv_if 4 (c := (I 88 (Int32.toNatClampNeg ((10 * (v3 ||| (zShl 1 v8))) + v8))) = (v5 - 1)) (f1 := (181, [some (.ref 73), none, none, some (.int v3), some (.int v4), some (.int v5), some (.int v6), some (.int v7), some (.int v8), none], [])) (f2 := (185, [some (.ref 73), none, none, some (.int v3), some (.int v4), some (.int v5), some (.int v6), some (.int v7), some (.int v8), none], [])) (h1 := zHp I) (fun n => rfl) (fun hc => ?_) (fun hc => ?_)
          · rw [if_pos hc] at hm_m662
            obtain rfl := Option.some.inj hm_m662
            refine zEv_go 2 (f1 := (186, [some (.ref 73), none, none, some (.int v3), some (.int v4), some (.int v5), some (.int v6), some (.int v7), some (.int v8), none], [.int 1])) (h1 := zHp I) (fun n => rfl) ?_
            exact zEv_weak (L := [some (.ref 73), none, none, some (.int v3), some (.int v4), some (.int v5), some (.int v6), some (.int v7), some (.int v8), none]) (by exact ⟨rfl, ⟨rfl, ⟨rfl, ⟨rfl, ⟨rfl, ⟨rfl, ⟨rfl, ⟨rfl, ⟨rfl, ⟨rfl, trivial⟩⟩⟩⟩⟩⟩⟩⟩⟩⟩) hJ_m662
          · rw [if_neg hc] at hm_m662
            obtain rfl := Option.some.inj hm_m662
            refine zEv_go 1 (f1 := (186, [some (.ref 73), none, none, some (.int v3), some (.int v4), some (.int v5), some (.int v6), some (.int v7), some (.int v8), none], [.int 0])) (h1 := zHp I) (fun n => rfl) ?_
            exact zEv_weak (L := [some (.ref 73), none, none, some (.int v3), some (.int v4), some (.int v5), some (.int v6), some (.int v7), some (.int v8), none]) (by exact ⟨rfl, ⟨rfl, ⟨rfl, ⟨rfl, ⟨rfl, ⟨rfl, ⟨rfl, ⟨rfl, ⟨rfl, ⟨rfl, trivial⟩⟩⟩⟩⟩⟩⟩⟩⟩⟩) hJ_m662
        · rw [if_neg hc] at hm_m662
          obtain rfl := Option.some.inj hm_m662
          refine zEv_go 1 (f1 := (186, [some (.ref 73), none, none, some (.int v3), some (.int v4), some (.int v5), some (.int v6), some (.int v7), some (.int v8), none], [.int 0])) (h1 := zHp I) (fun n => rfl) ?_
          exact zEv_weak (L := [some (.ref 73), none, none, some (.int v3), some (.int v4), some (.int v5), some (.int v6), some (.int v7), some (.int v8), none]) (by exact ⟨rfl, ⟨rfl, ⟨rfl, ⟨rfl, ⟨rfl, ⟨rfl, ⟨rfl, ⟨rfl, ⟨rfl, ⟨rfl, trivial⟩⟩⟩⟩⟩⟩⟩⟩⟩⟩) hJ_m662
def Mo_walk_L115 : Nat → Int32 → Int32 → Int32 → Int32 → zI → Option (Int32)
  | 0, _, _, _, _, _ => none
  | n + 1, v3, v4, v5, v6, I =>
    if v5 ≤ 0 then
      some v6
    else
      (Mo_walk_L128 n v3 v4 v5 v6 (-6) 9 I).bind fun x667 =>
      Mo_walk_L115 n (v3 ||| (zShl 1 x667)) x667 (v5 + (-1)) ((10 * v6) + x667) I
theorem s_Mo_walk_L115 (d : Nat) (hd : 2 ≤ d) : ∀ (n : Nat) {v3 : Int32} {v4 : Int32} {v5 : Int32} {v6 : Int32} {I : zI} {y6 : Int32} {v : Option Value} {h' : zH}, Mo_walk_L115 n v3 v4 v5 v6 I = some y6 → zEv none d 165 (235, [some (.ref 73), none, none, none, none, none, some (.int y6), none, none, none], []) (zHp I) v h' → zEv none d 165 (115, [some (.ref 73), none, none, some (.int v3), some (.int v4), some (.int v5), some (.int v6), none, none, none], []) (zHp I) v h' := by
  obtain ⟨d, rfl⟩ : ∃ e, d = e + 1 := ⟨d - 1, by omega⟩
  intro n
  induction n with
  | zero => intros; rename_i hf _; cases hf
  | succ n ih =>
    intro v3 v4 v5 v6 I y6 v h' hf kk
    rw [Mo_walk_L115] at hf
    refine zEv_if 2 (c := v5 ≤ 0) (f1 := (235, [some (.ref 73), none, none, some (.int v3), some (.int v4), some (.int v5), some (.int v6), none, none, none], [])) (f2 := (120, [some (.ref 73), none, none, some (.int v3), some (.int v4), some (.int v5), some (.int v6), none, none, none], [])) (h1 := zHp I) (fun n => rfl) (fun hc => ?_) (fun hc => ?_)
    · rw [if_pos hc] at hf
      obtain rfl := Option.some.inj hf
      exact zEv_weak (L := [some (.ref 73), none, none, none, none, none, some (.int v6), none, none, none]) (by exact ⟨rfl, ⟨rfl, ⟨rfl, ⟨rfl, ⟨rfl, ⟨rfl, ⟨rfl, ⟨rfl, ⟨rfl, ⟨rfl, trivial⟩⟩⟩⟩⟩⟩⟩⟩⟩⟩) kk
    · rw [if_neg hc] at hf
      obtain ⟨x667, hx, hf⟩ := Option.bind_eq_some_iff.mp hf
      refine zEv_go 4 (f1 := (128, [some (.ref 73), none, none, some (.int v3), some (.int v4), some (.int v5), some (.int v6), some (.int (-6)), some (.int 9), none], [])) (h1 := zHp I) (fun n => rfl) ?_
      refine zEv_weak (L := [some (.ref 73), none, none, some (.int v3), some (.int v4), some (.int v5), some (.int v6), some (.int (-6)), some (.int 9), none]) (by exact ⟨rfl, ⟨rfl, ⟨rfl, ⟨rfl, ⟨rfl, ⟨rfl, ⟨rfl, ⟨rfl, ⟨rfl, ⟨rfl, trivial⟩⟩⟩⟩⟩⟩⟩⟩⟩⟩) (s_Mo_walk_L128 (d + 1) (by omega) n hx ?_)
      refine zEv_go 16 (f1 := (115, [some (.ref 73), none, none, some (.int (v3 ||| (zShl 1 x667))), some (.int x667), some (.int (v5 + (-1))), some (.int ((10 * v6) + x667)), some (.int x667), none, none], [])) (h1 := zHp I) (fun n => rfl) ?_
      refine zEv_weak (L := [some (.ref 73), none, none, some (.int (v3 ||| (zShl 1 x667))), some (.int x667), some (.int (v5 + (-1))), some (.int ((10 * v6) + x667)), none, none, none]) (by exact ⟨rfl, ⟨rfl, ⟨rfl, ⟨rfl, ⟨rfl, ⟨rfl, ⟨rfl, ⟨rfl, ⟨rfl, ⟨rfl, trivial⟩⟩⟩⟩⟩⟩⟩⟩⟩⟩) ?_
      exact ih hf kk
def Mo_walk_L33 : Nat → Int32 → Int32 → Int32 → Int32 → zI → Option (zI)
  | 0, _, _, _, _, _ => none
  | n + 1, v1, v2, v3, v4, I =>
    if 10 ≤ v4 then
      some I
    else
      (Mo_isIn v3 v4 I).bind fun x644 =>
      (
        if x644 = 0 then
          some 0
        else
          (Mo_goesOn n v3 v4 I).bind fun x657 =>
          some x657 : Option (Int32)).bind fun x658 =>
      if zIn ((10 * v3) + v4) 10240 then
        Mo_walk_L33 n v1 v2 v3 (v4 + 1) (zUp I 88 (Int32.toNatClampNeg ((10 * v3) + v4)) x658)
      else none
theorem s_Mo_walk_L33 (d : Nat) (hd : 2 ≤ d) : ∀ (n : Nat) {v1 : Int32} {v2 : Int32} {v3 : Int32} {v4 : Int32} {I : zI}  {I' : zI} {v : Option Value} {h' : zH}, Mo_walk_L33 n v1 v2 v3 v4 I = some I' → zEv none d 165 (78, [some (.ref 73), some (.int v1), some (.int v2), some (.int v3), none, none, none, none, none, none], []) (zHp I') v h' → zEv none d 165 (33, [some (.ref 73), some (.int v1), some (.int v2), some (.int v3), some (.int v4), none, none, none, none, none], []) (zHp I) v h' := by
  obtain ⟨d, rfl⟩ : ∃ e, d = e + 1 := ⟨d - 1, by omega⟩
  intro n
  induction n with
  | zero => intros; rename_i hf _; cases hf
  | succ n ih =>
    intro v1 v2 v3 v4 I I' v h' hf kk
    rw [Mo_walk_L33] at hf
    refine zEv_if 3 (c := 10 ≤ v4) (f1 := (78, [some (.ref 73), some (.int v1), some (.int v2), some (.int v3), some (.int v4), none, none, none, none, none], [])) (f2 := (40, [some (.ref 73), some (.int v1), some (.int v2), some (.int v3), some (.int v4), none, none, none, none, none], [])) (h1 := zHp I) (fun n => rfl) (fun hc => ?_) (fun hc => ?_)
    · rw [if_pos hc] at hf
      obtain rfl := Option.some.inj hf
      exact zEv_weak (L := [some (.ref 73), some (.int v1), some (.int v2), some (.int v3), none, none, none, none, none, none]) (by exact ⟨rfl, ⟨rfl, ⟨rfl, ⟨rfl, ⟨rfl, ⟨rfl, ⟨rfl, ⟨rfl, ⟨rfl, ⟨rfl, trivial⟩⟩⟩⟩⟩⟩⟩⟩⟩⟩) kk
    · rw [if_neg hc] at hf
      obtain ⟨x644, hx, hf⟩ := Option.bind_eq_some_iff.mp hf
      refine zEv_call 10 (N := 121) (vs := [.int v3, .int v4]) (v1 := some (.int x644)) (h1 := zHp I) (L := [some (.ref 73), some (.int v1), some (.int v2), some (.int v3), some (.int v4), none, none, none, none, none]) (rest := [.int ((10 * v3) + v4), .ref 88]) (pc := 57) (fun n => rfl) (s_Mo_isIn hx d (by omega)) rfl rfl ?_
      show zEv _ _ _ (57, [some (.ref 73), some (.int v1), some (.int v2), some (.int v3), some (.int v4), none, none, none, none, none], [.int x644, .int ((10 * v3) + v4), .ref 88]) _ _ _
      obtain ⟨x658, hm_m645, hf⟩ := Option.bind_eq_some_iff.mp hf
      have hJ_m645 : zEv none (d + 1) 165 (71, [some (.ref 73), some (.int v1), some (.int v2), some (.int v3), some (.int v4), none, none, none, none, none], [.int x658, .int ((10 * v3) + v4), .ref 88]) (zHp I) v h' := by
        obtain ⟨hc, hf⟩ := zGd_inv hf
        refine zEv_gd 1 (c := zIn ((10 * v3) + v4) 10240) (f1 := (72, [some (.ref 73), some (.int v1), some (.int v2), some (.int v3), some (.int v4), none, none, none, none, none], [])) (h1 := zHp (zUp I 88 (Int32.toNatClampNeg ((10 * v3) + v4)) x658)) (fun n => rfl) hc ?_
        refine zEv_go 2 (f1 := (33, [some (.ref 73), some (.int v1), some (.int v2), some (.int v3), some (.int (v4 + 1)), none, none, none, none, none], [])) (h1 := zHp (zUp I 88 (Int32.toNatClampNeg ((10 * v3) + v4)) x658)) (fun n => rfl) ?_
        refine zEv_weak (L := [some (.ref 73), some (.int v1), some (.int v2), some (.int v3), some (.int (v4 + 1)), none, none, none, none, none]) (by exact ⟨rfl, ⟨rfl, ⟨rfl, ⟨rfl, ⟨rfl, ⟨rfl, ⟨rfl, ⟨rfl, ⟨rfl, ⟨rfl, trivial⟩⟩⟩⟩⟩⟩⟩⟩⟩⟩) ?_
        exact ih hf kk
      clear hf
      refine zEv_if 1 (c := x644 = 0) (f1 := (70, [some (.ref 73), some (.int v1), some (.int v2), some (.int v3), some (.int v4), none, none, none, none, none], [.int ((10 * v3) + v4), .ref 88])) (f2 := (60, [some (.ref 73), some (.int v1), some (.int v2), some (.int v3), some (.int v4), none, none, none, none, none], [.int ((10 * v3) + v4), .ref 88])) (h1 := zHp I) (fun n => rfl) (fun hc => ?_) (fun hc => ?_)
      · rw [if_pos hc] at hm_m645
        obtain rfl := Option.some.inj hm_m645
        refine zEv_go 1 (f1 := (71, [some (.ref 73), some (.int v1), some (.int v2), some (.int v3), some (.int v4), none, none, none, none, none], [.int 0, .int ((10 * v3) + v4), .ref 88])) (h1 := zHp I) (fun n => rfl) ?_
        exact zEv_weak (L := [some (.ref 73), some (.int v1), some (.int v2), some (.int v3), some (.int v4), none, none, none, none, none]) (by exact ⟨rfl, ⟨rfl, ⟨rfl, ⟨rfl, ⟨rfl, ⟨rfl, ⟨rfl, ⟨rfl, ⟨rfl, ⟨rfl, trivial⟩⟩⟩⟩⟩⟩⟩⟩⟩⟩) hJ_m645
      · rw [if_neg hc] at hm_m645
        obtain ⟨x657, hx, hm_m645⟩ := Option.bind_eq_some_iff.mp hm_m645
        refine zEv_call 4 (N := 164) (vs := [.ref 73, .int v3, .int v4]) (v1 := some (.int x657)) (h1 := zHp I) (L := [some (.ref 73), some (.int v1), some (.int v2), some (.int v3), some (.int v4), none, none, none, none, none]) (rest := [.int ((10 * v3) + v4), .ref 88]) (pc := 67) (fun n => rfl) (s_Mo_goesOn hx d (by omega)) rfl rfl ?_
        show zEv _ _ _ (67, [some (.ref 73), some (.int v1), some (.int v2), some (.int v3), some (.int v4), none, none, none, none, none], [.int x657, .int ((10 * v3) + v4), .ref 88]) _ _ _
        obtain rfl := Option.some.inj hm_m645
        refine zEv_go 1 (f1 := (71, [some (.ref 73), some (.int v1), some (.int v2), some (.int v3), some (.int v4), none, none, none, none, none], [.int x657, .int ((10 * v3) + v4), .ref 88])) (h1 := zHp I) (fun n => rfl) ?_
        exact zEv_weak (L := [some (.ref 73), some (.int v1), some (.int v2), some (.int v3), some (.int v4), none, none, none, none, none]) (by exact ⟨rfl, ⟨rfl, ⟨rfl, ⟨rfl, ⟨rfl, ⟨rfl, ⟨rfl, ⟨rfl, ⟨rfl, ⟨rfl, trivial⟩⟩⟩⟩⟩⟩⟩⟩⟩⟩) hJ_m645
def Mo_walk_L26 : Nat → Int32 → Int32 → Int32 → zI → Option (zI)
  | 0, _, _, _, _ => none
  | n + 1, v1, v2, v3, I =>
    if v3 ≤ 0 then
      some I
    else
      (Mo_walk_L33 n v1 v2 v3 0 I).bind fun I659 =>
      Mo_walk_L26 n v1 v2 (v3 + (-1)) I659
theorem s_Mo_walk_L26 (d : Nat) (hd : 2 ≤ d) : ∀ (n : Nat) {v1 : Int32} {v2 : Int32} {v3 : Int32} {I : zI}  {I' : zI} {v : Option Value} {h' : zH}, Mo_walk_L26 n v1 v2 v3 I = some I' → zEv none d 165 (84, [some (.ref 73), some (.int v1), some (.int v2), none, none, none, none, none, none, none], []) (zHp I') v h' → zEv none d 165 (26, [some (.ref 73), some (.int v1), some (.int v2), some (.int v3), none, none, none, none, none, none], []) (zHp I) v h' := by
  obtain ⟨d, rfl⟩ : ∃ e, d = e + 1 := ⟨d - 1, by omega⟩
  intro n
  induction n with
  | zero => intros; rename_i hf _; cases hf
  | succ n ih =>
    intro v1 v2 v3 I I' v h' hf kk
    rw [Mo_walk_L26] at hf
    refine zEv_if 2 (c := v3 ≤ 0) (f1 := (84, [some (.ref 73), some (.int v1), some (.int v2), some (.int v3), none, none, none, none, none, none], [])) (f2 := (30, [some (.ref 73), some (.int v1), some (.int v2), some (.int v3), none, none, none, none, none, none], [])) (h1 := zHp I) (fun n => rfl) (fun hc => ?_) (fun hc => ?_)
    · rw [if_pos hc] at hf
      obtain rfl := Option.some.inj hf
      exact zEv_weak (L := [some (.ref 73), some (.int v1), some (.int v2), none, none, none, none, none, none, none]) (by exact ⟨rfl, ⟨rfl, ⟨rfl, ⟨rfl, ⟨rfl, ⟨rfl, ⟨rfl, ⟨rfl, ⟨rfl, ⟨rfl, trivial⟩⟩⟩⟩⟩⟩⟩⟩⟩⟩) kk
    · rw [if_neg hc] at hf
      obtain ⟨I659, hx, hf⟩ := Option.bind_eq_some_iff.mp hf
      refine zEv_go 2 (f1 := (33, [some (.ref 73), some (.int v1), some (.int v2), some (.int v3), some (.int 0), none, none, none, none, none], [])) (h1 := zHp I) (fun n => rfl) ?_
      refine zEv_weak (L := [some (.ref 73), some (.int v1), some (.int v2), some (.int v3), some (.int 0), none, none, none, none, none]) (by exact ⟨rfl, ⟨rfl, ⟨rfl, ⟨rfl, ⟨rfl, ⟨rfl, ⟨rfl, ⟨rfl, ⟨rfl, ⟨rfl, trivial⟩⟩⟩⟩⟩⟩⟩⟩⟩⟩) (s_Mo_walk_L33 (d + 1) (by omega) n hx ?_)
      refine zEv_go 2 (f1 := (26, [some (.ref 73), some (.int v1), some (.int v2), some (.int (v3 + (-1))), none, none, none, none, none, none], [])) (h1 := zHp I659) (fun n => rfl) ?_
      refine zEv_weak (L := [some (.ref 73), some (.int v1), some (.int v2), some (.int (v3 + (-1))), none, none, none, none, none, none]) (by exact ⟨rfl, ⟨rfl, ⟨rfl, ⟨rfl, ⟨rfl, ⟨rfl, ⟨rfl, ⟨rfl, ⟨rfl, ⟨rfl, trivial⟩⟩⟩⟩⟩⟩⟩⟩⟩⟩) ?_
      exact ih hf kk
def Mo_walk (n : Nat) (a0 : Int32) (a1 : Int32) (I : zI) : Option (Int32 × zI) :=
  (Mo_isBench a0 I).bind fun x642 =>
  if x642 = 0 then
    some ((-1), I)
  else
    (Mo_in (Int32.toInt64 a1) 0 1 I).bind fun x643 =>
    if x643 = 0 then
      some ((-2), I)
    else
      (Mo_walk_L26 n a0 a1 1023 I).bind fun I660 =>
      if zIn ((10 * (zShl 1 a0)) + a0) 10240 then
        if a1 = 0 then
          some ((I660 88 (Int32.toNatClampNeg ((10 * (zShl 1 a0)) + a0))), I660)
        else
          (Mo_walk_L115 n (zShl 1 a0) a0 (I660 88 (Int32.toNatClampNeg ((10 * (zShl 1 a0)) + a0))) 0 I660).bind fun x668 =>
          some (x668, I660)
      else none
theorem s_Mo_walk {n : Nat} {a0 : Int32} {a1 : Int32} {I : zI} {r : Int32} {I' : zI} (hf : Mo_walk n a0 a1 I = some (r, I')) (d : Nat) (hd : 2 ≤ d) : zCall d 165 [.ref 73, .int a0, .int a1] (zHp I) (some (.int r)) (zHp I') := by
  obtain ⟨d, rfl⟩ : ∃ e, d = e + 1 := ⟨d - 1, by omega⟩
  rw [Mo_walk] at hf
  show zEv _ _ _ (0, [some (.ref 73), some (.int a0), some (.int a1), none, none, none, none, none, none, none], []) _ _ _
  obtain ⟨x642, hx, hf⟩ := Option.bind_eq_some_iff.mp hf
  refine zEv_call 2 (N := 118) (vs := [.int a0]) (v1 := some (.int x642)) (h1 := zHp I) (L := [some (.ref 73), some (.int a0), some (.int a1), none, none, none, none, none, none, none]) (rest := []) (pc := 4) (fun n => rfl) (s_Mo_isBench hx d (by omega)) rfl rfl ?_
  show zEv _ _ _ (4, [some (.ref 73), some (.int a0), some (.int a1), none, none, none, none, none, none, none], [.int x642]) _ _ _
  refine zEv_if 1 (c := x642 = 0) (f1 := (7, [some (.ref 73), some (.int a0), some (.int a1), none, none, none, none, none, none, none], [])) (f2 := (9, [some (.ref 73), some (.int a0), some (.int a1), none, none, none, none, none, none, none], [])) (h1 := zHp I) (fun n => rfl) (fun hc => ?_) (fun hc => ?_)
  · rw [if_pos hc] at hf
    cases hf
    exact zEv_ret 2 (fun n => rfl)
  · rw [if_neg hc] at hf
    obtain ⟨x643, hx, hf⟩ := Option.bind_eq_some_iff.mp hf
    refine zEv_call 5 (N := 117) (vs := [.long (Int32.toInt64 a1), .long 0, .long 1]) (v1 := some (.int x643)) (h1 := zHp I) (L := [some (.ref 73), some (.int a0), some (.int a1), none, none, none, none, none, none, none]) (rest := []) (pc := 16) (fun n => rfl) (s_Mo_in hx d (by omega)) rfl rfl ?_
    show zEv _ _ _ (16, [some (.ref 73), some (.int a0), some (.int a1), none, none, none, none, none, none, none], [.int x643]) _ _ _
    refine zEv_if 1 (c := x643 = 0) (f1 := (19, [some (.ref 73), some (.int a0), some (.int a1), none, none, none, none, none, none, none], [])) (f2 := (22, [some (.ref 73), some (.int a0), some (.int a1), none, none, none, none, none, none, none], [])) (h1 := zHp I) (fun n => rfl) (fun hc => ?_) (fun hc => ?_)
    · rw [if_pos hc] at hf
      cases hf
      exact zEv_ret 2 (fun n => rfl)
    · rw [if_neg hc] at hf
      obtain ⟨I660, hx, hf⟩ := Option.bind_eq_some_iff.mp hf
      refine zEv_go 2 (f1 := (26, [some (.ref 73), some (.int a0), some (.int a1), some (.int 1023), none, none, none, none, none, none], [])) (h1 := zHp I) (fun n => rfl) ?_
      refine zEv_weak (L := [some (.ref 73), some (.int a0), some (.int a1), some (.int 1023), none, none, none, none, none, none]) (by exact ⟨rfl, ⟨rfl, ⟨rfl, ⟨rfl, ⟨rfl, ⟨rfl, ⟨rfl, ⟨rfl, ⟨rfl, ⟨rfl, trivial⟩⟩⟩⟩⟩⟩⟩⟩⟩⟩) (s_Mo_walk_L26 (d + 1) (by omega) n hx ?_)
      obtain ⟨hc, hf⟩ := zGd_inv hf
      refine zEv_gd 14 (c := zIn ((10 * (zShl 1 a0)) + a0) 10240) (f1 := (103, [some (.ref 73), some (.int a0), some (.int a1), some (.int (zShl 1 a0)), some (.int a0), none, none, none, none, none], [.int (I660 88 (Int32.toNatClampNeg ((10 * (zShl 1 a0)) + a0)))])) (h1 := zHp I660) (fun n => rfl) hc ?_
      refine zEv_if 3 (c := a1 = 0) (f1 := (109, [some (.ref 73), some (.int a0), some (.int a1), some (.int (zShl 1 a0)), some (.int a0), some (.int (I660 88 (Int32.toNatClampNeg ((10 * (zShl 1 a0)) + a0)))), none, none, none, none], [])) (f2 := (112, [some (.ref 73), some (.int a0), some (.int a1), some (.int (zShl 1 a0)), some (.int a0), some (.int (I660 88 (Int32.toNatClampNeg ((10 * (zShl 1 a0)) + a0)))), none, none, none, none], [])) (h1 := zHp I660) (fun n => rfl) (fun hc => ?_) (fun hc => ?_)
      · rw [if_pos hc] at hf
        cases hf
        exact zEv_ret 2 (fun n => rfl)
      · rw [if_neg hc] at hf
        obtain ⟨x668, hx, hf⟩ := Option.bind_eq_some_iff.mp hf
        refine zEv_go 2 (f1 := (115, [some (.ref 73), some (.int a0), some (.int a1), some (.int (zShl 1 a0)), some (.int a0), some (.int (I660 88 (Int32.toNatClampNeg ((10 * (zShl 1 a0)) + a0)))), some (.int 0), none, none, none], [])) (h1 := zHp I660) (fun n => rfl) ?_
        refine zEv_weak (L := [some (.ref 73), none, none, some (.int (zShl 1 a0)), some (.int a0), some (.int (I660 88 (Int32.toNatClampNeg ((10 * (zShl 1 a0)) + a0)))), some (.int 0), none, none, none]) (by exact ⟨rfl, ⟨rfl, ⟨rfl, ⟨rfl, ⟨rfl, ⟨rfl, ⟨rfl, ⟨rfl, ⟨rfl, ⟨rfl, trivial⟩⟩⟩⟩⟩⟩⟩⟩⟩⟩) (s_Mo_walk_L115 (d + 1) (by omega) n hx ?_)
        cases hf
        exact zEv_ret 2 (fun n => rfl)
