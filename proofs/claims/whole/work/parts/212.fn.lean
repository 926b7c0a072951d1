set_option maxRecDepth 100000
def Mo_readSeven_L8 : Nat → Int32 → Int32 → Int32 → zI → Option (Int32 × Int32 × zI)
  | 0, _, _, _, _ => none
  | n + 1, v2, v3, v4, I =>
    if v4 < 0 then
      some (v2, v3, I)
    else
      if zIn v4 7 then
        if zIn v4 7 then
          Mo_readSeven_L8 n (v2 / 10) (v3 ||| (zShl 1 ((zUp I 90 (Int32.toNatClampNeg v4) (zRem v2 10)) 90 (Int32.toNatClampNeg v4)))) (v4 + (-1)) (zUp I 90 (Int32.toNatClampNeg v4) (zRem v2 10))
        else none
      else none
theorem s_Mo_readSeven_L8 (d : Nat) (hd : 0 ≤ d) : ∀ (n : Nat) {v2 : Int32} {v3 : Int32} {v4 : Int32} {I : zI} {y2 : Int32} {y3 : Int32} {I' : zI} {v : Option Value} {h' : zH}, Mo_readSeven_L8 n v2 v3 v4 I = some (y2, y3, I') → zEv none d 166 (47, [some (.ref 73), none, some (.int y2), some (.int y3), none], []) (zHp I') v h' → zEv none d 166 (8, [some (.ref 73), none, some (.int v2), some (.int v3), some (.int v4)], []) (zHp I) v h' := by
  intro n
  induction n with
  | zero => intros; rename_i hf _; cases hf
  | succ n ih =>
    intro v2 v3 v4 I y2 y3 I' v h' hf kk
    rw [Mo_readSeven_L8] at hf
    refine zEv_if 2 (c := v4 < 0) (f1 := (47, [some (.ref 73), none, some (.int v2), some (.int v3), some (.int v4)], [])) (f2 := (13, [some (.ref 73), none, some (.int v2), some (.int v3), some (.int v4)], [])) (h1 := zHp I) (fun n => rfl) (fun hc => ?_) (fun hc => ?_)
    · rw [if_pos hc] at hf
      have hq0 := Option.some.inj hf
      obtain ⟨he0, hq1⟩ := Prod.mk.inj hq0
      subst he0
      obtain ⟨he1, hq2⟩ := Prod.mk.inj hq1
      subst he1
      subst hq2
      exact zEv_weak (L := [some (.ref 73), none, some (.int v2), some (.int v3), none]) (by exact ⟨rfl, ⟨rfl, ⟨rfl, ⟨rfl, ⟨rfl, trivial⟩⟩⟩⟩⟩) kk
    · rw [if_neg hc] at hf
      obtain ⟨hc, hf⟩ := zGd_inv hf
      refine zEv_gd 7 (c := zIn v4 7) (f1 := (24, [some (.ref 73), none, some (.int v2), some (.int v3), some (.int v4)], [])) (h1 := zHp (zUp I 90 (Int32.toNatClampNeg v4) (zRem v2 10))) (fun n => rfl) hc ?_
      obtain ⟨hc, hf⟩ := zGd_inv hf
      refine zEv_gd 6 (c := zIn v4 7) (f1 := (33, [some (.ref 73), none, some (.int v2), some (.int v3), some (.int v4)], [.int ((zUp I 90 (Int32.toNatClampNeg v4) (zRem v2 10)) 90 (Int32.toNatClampNeg v4)), .int 1, .int v3])) (h1 := zHp (zUp I 90 (Int32.toNatClampNeg v4) (zRem v2 10))) (fun n => rfl) hc ?_
      refine zEv_go 9 (f1 := (8, [some (.ref 73), none, some (.int (v2 / 10)), some (.int (v3 ||| (zShl 1 ((zUp I 90 (Int32.toNatClampNeg v4) (zRem v2 10)) 90 (Int32.toNatClampNeg v4))))), some (.int (v4 + (-1)))], [])) (h1 := zHp (zUp I 90 (Int32.toNatClampNeg v4) (zRem v2 10))) (fun n => rfl) ?_
      refine zEv_weak (L := [some (.ref 73), none, some (.int (v2 / 10)), some (.int (v3 ||| (zShl 1 ((zUp I 90 (Int32.toNatClampNeg v4) (zRem v2 10)) 90 (Int32.toNatClampNeg v4))))), some (.int (v4 + (-1)))]) (by exact ⟨rfl, ⟨rfl, ⟨rfl, ⟨rfl, ⟨rfl, trivial⟩⟩⟩⟩⟩) ?_
      exact ih hf kk
def Mo_readSeven (n : Nat) (a0 : Int32) (I : zI) : Option (Int32 × zI) :=
  (Mo_readSeven_L8 n a0 0 6 I).bind fun (x670, x671, I672) =>
  if x670 = 0 then
    if x671 = 127 then
      some (1, I672)
    else
      some (0, I672)
  else
    some (0, I672)
theorem s_Mo_readSeven {n : Nat} {a0 : Int32} {I : zI} {r : Int32} {I' : zI} (hf : Mo_readSeven n a0 I = some (r, I')) (d : Nat) (hd : 0 ≤ d) : zCall d 166 [.ref 73, .int a0] (zHp I) (some (.int r)) (zHp I') := by
  rw [Mo_readSeven] at hf
  show zEv _ _ _ (0, [some (.ref 73), some (.int a0), none, none, none], []) _ _ _
  obtain ⟨⟨x670, x671, I672⟩, hx, hf⟩ := Option.bind_eq_some_iff.mp hf
  dsimp only at hf
  refine zEv_go 6 (f1 := (8, [some (.ref 73), some (.int a0), some (.int a0), some (.int 0), some (.int 6)], [])) (h1 := zHp I) (fun n => rfl) ?_
  refine zEv_weak (L := [some (.ref 73), none, some (.int a0), some (.int 0), some (.int 6)]) (by exact ⟨rfl, ⟨rfl, ⟨rfl, ⟨rfl, ⟨rfl, trivial⟩⟩⟩⟩⟩) (s_Mo_readSeven_L8 (d) (by omega) n hx ?_)
  refine zEv_if 2 (c := x670 = 0) (f1 := (51, [some (.ref 73), none, some (.int x670), some (.int x671), none], [])) (f2 := (61, [some (.ref 73), none, some (.int x670), some (.int x671), none], [])) (h1 := zHp I672) (fun n => rfl) (fun hc => ?_) (fun hc => ?_)
  · rw [if_pos hc] at hf
    refine zEv_if 3 (c := x671 = 127) (f1 := (57, [some (.ref 73), none, some (.int x670), some (.int x671), none], [])) (f2 := (61, [some (.ref 73), none, some (.int x670), some (.int x671), none], [])) (h1 := zHp I672) (fun n => rfl) (fun hc => ?_) (fun hc => ?_)
    · rw [if_pos hc] at hf
      cases hf
      exact zEv_ret 3 (fun n => rfl)
    · rw [if_neg hc] at hf
      cases hf
      exact zEv_ret 2 (fun n => rfl)
  · rw [if_neg hc] at hf
    cases hf
    exact zEv_ret 2 (fun n => rfl)
def Mo_sitsBy_L18 : Nat → Int32 → Int32 → Int32 → Int32 → Int32 → zI → Option (Int32 × Int32)
  | 0, _, _, _, _, _, _ => none
  | n + 1, v1, v2, v3, v4, v5, I =>
    (Mo_isIn v1 v5 I).bind fun x676 =>
    if x676 = 0 then
      if zIn v5 7 then
        Mo_sitsBy_L18 n (v1 ||| (zShl 1 v5)) v2 v3 (v4 + 1) (I 90 (Int32.toNatClampNeg v5)) I
      else none
    else
      some (v1, v4)
theorem s_Mo_sitsBy_L18 (d : Nat) (hd : 1 ≤ d) : ∀ (n : Nat) {v1 : Int32} {v2 : Int32} {v3 : Int32} {v4 : Int32} {v5 : Int32} {I : zI} {y1 : Int32} {y4 : Int32} {v : Option Value} {h' : zH}, Mo_sitsBy_L18 n v1 v2 v3 v4 v5 I = some (y1, y4) → zEv none d 167 (49, [some (.ref 73), some (.int y1), some (.int v2), some (.int v3), some (.int y4), none], []) (zHp I) v h' → zEv none d 167 (18, [some (.ref 73), some (.int v1), some (.int v2), some (.int v3), some (.int v4), some (.int v5)], []) (zHp I) v h' := by
  obtain ⟨d, rfl⟩ : ∃ e, d = e + 1 := ⟨d - 1, by omega⟩
  intro n
  induction n with
  | zero => intros; rename_i hf _; cases hf
  | succ n ih =>
    intro v1 v2 v3 v4 v5 I y1 y4 v h' hf kk
    rw [Mo_sitsBy_L18] at hf
    obtain ⟨x676, hx, hf⟩ := Option.bind_eq_some_iff.mp hf
    refine zEv_call 3 (N := 121) (vs := [.int v1, .int v5]) (v1 := some (.int x676)) (h1 := zHp I) (L := [some (.ref 73), some (.int v1), some (.int v2), some (.int v3), some (.int v4), some (.int v5)]) (rest := []) (pc := 24) (fun n => rfl) (s_Mo_isIn hx d (by omega)) rfl rfl ?_
    show zEv _ _ _ (24, [some (.ref 73), some (.int v1), some (.int v2), some (.int v3), some (.int v4), some (.int v5)], [.int x676]) _ _ _
    refine zEv_if 1 (c := x676 = 0) (f1 := (27, [some (.ref 73), some (.int v1), some (.int v2), some (.int v3), some (.int v4), some (.int v5)], [])) (f2 := (49, [some (.ref 73), some (.int v1), some (.int v2), some (.int v3), some (.int v4), some (.int v5)], [])) (h1 := zHp I) (fun n => rfl) (fun hc => ?_) (fun hc => ?_)
    · rw [if_pos hc] at hf
      obtain ⟨hc, hf⟩ := zGd_inv hf
      refine zEv_gd 11 (c := zIn v5 7) (f1 := (44, [some (.ref 73), some (.int (v1 ||| (zShl 1 v5))), some (.int v2), some (.int v3), some (.int (v4 + 1)), some (.int v5)], [.int (I 90 (Int32.toNatClampNeg v5))])) (h1 := zHp I) (fun n => rfl) hc ?_
      refine zEv_go 2 (f1 := (18, [some (.ref 73), some (.int (v1 ||| (zShl 1 v5))), some (.int v2), some (.int v3), some (.int (v4 + 1)), some (.int (I 90 (Int32.toNatClampNeg v5)))], [])) (h1 := zHp I) (fun n => rfl) ?_
      refine zEv_weak (L := [some (.ref 73), some (.int (v1 ||| (zShl 1 v5))), some (.int v2), some (.int v3), some (.int (v4 + 1)), some (.int (I 90 (Int32.toNatClampNeg v5)))]) (by exact ⟨rfl, ⟨rfl, ⟨rfl, ⟨rfl, ⟨rfl, ⟨rfl, trivial⟩⟩⟩⟩⟩⟩) ?_
      exact ih hf kk
    · rw [if_neg hc] at hf
      have hq0 := Option.some.inj hf
      obtain ⟨he0, hq1⟩ := Prod.mk.inj hq0
      subst he0
      subst hq1
      exact zEv_weak (L := [some (.ref 73), some (.int v1), some (.int v2), some (.int v3), some (.int v4), none]) (by exact ⟨rfl, ⟨rfl, ⟨rfl, ⟨rfl, ⟨rfl, ⟨rfl, trivial⟩⟩⟩⟩⟩⟩) kk
def Mo_sitsBy_L6 : Nat → Int32 → Int32 → Int32 → zI → Option (Int32)
  | 0, _, _, _, _ => none
  | n + 1, v1, v2, v3, I =>
    if 7 ≤ v3 then
      some v2
    else
      (Mo_sitsBy_L18 n v1 v2 v3 0 v3 I).bind fun (x677, x678) =>
      (
        if x678 ≤ 1 then
          some 0
        else
          if v3 = 0 then
            some (x678 - 1)
          else
            some (x678 + 1) : Option (Int32)).bind fun x680 =>
      Mo_sitsBy_L6 n x677 (v2 + x680) (v3 + 1) I
theorem s_Mo_sitsBy_L6 (d : Nat) (hd : 1 ≤ d) : ∀ (n : Nat) {v1 : Int32} {v2 : Int32} {v3 : Int32} {I : zI} {y2 : Int32} {v : Option Value} {h' : zH}, Mo_sitsBy_L6 n v1 v2 v3 I = some y2 → zEv none d 167 (83, [some (.ref 73), none, some (.int y2), none, none, none], []) (zHp I) v h' → zEv none d 167 (6, [some (.ref 73), some (.int v1), some (.int v2), some (.int v3), none, none], []) (zHp I) v h' := by
  obtain ⟨d, rfl⟩ : ∃ e, d = e + 1 := ⟨d - 1, by omega⟩
  intro n
  induction n with
  | zero => intros; rename_i hf _; cases hf
  | succ n ih =>
    intro v1 v2 v3 I y2 v h' hf kk
    rw [Mo_sitsBy_L6] at hf
    refine zEv_if 3 (c := 7 ≤ v3) (f1 := (83, [some (.ref 73), some (.int v1), some (.int v2), some (.int v3), none, none], [])) (f2 := (12, [some (.ref 73), some (.int v1), some (.int v2), some (.int v3), none, none], [])) (h1 := zHp I) (fun n => rfl) (fun hc => ?_) (fun hc => ?_)
    · rw [if_pos hc] at hf
      obtain rfl := Option.some.inj hf
      exact zEv_weak (L := [some (.ref 73), none, some (.int v2), none, none, none]) (by exact ⟨rfl, ⟨rfl, ⟨rfl, ⟨rfl, ⟨rfl, ⟨rfl, trivial⟩⟩⟩⟩⟩⟩) kk
    · rw [if_neg hc] at hf
      obtain ⟨⟨x677, x678⟩, hx, hf⟩ := Option.bind_eq_some_iff.mp hf
      dsimp only at hf
      refine zEv_go 4 (f1 := (18, [some (.ref 73), some (.int v1), some (.int v2), some (.int v3), some (.int 0), some (.int v3)], [])) (h1 := zHp I) (fun n => rfl) ?_
      refine zEv_weak (L := [some (.ref 73), some (.int v1), some (.int v2), some (.int v3), some (.int 0), some (.int v3)]) (by exact ⟨rfl, ⟨rfl, ⟨rfl, ⟨rfl, ⟨rfl, ⟨rfl, trivial⟩⟩⟩⟩⟩⟩) (s_Mo_sitsBy_L18 (d + 1) (by omega) n hx ?_)
      obtain ⟨x680, hm_m679, hf⟩ := Option.bind_eq_some_iff.mp hf
      have hJ_m679 : zEv none (d + 1) 167 (75, [some (.ref 73), some (.int x677), none, some (.int v3), none, none], [.int x680, .int v2]) (zHp I) v h' := by
        refine zEv_go 4 (f1 := (6, [some (.ref 73), some (.int x677), some (.int (v2 + x680)), some (.int (v3 + 1)), none, none], [])) (h1 := zHp I) (fun n => rfl) ?_
        refine zEv_weak (L := [some (.ref 73), some (.int x677), some (.int (v2 + x680)), some (.int (v3 + 1)), none, none]) (by exact ⟨rfl, ⟨rfl, ⟨rfl, ⟨rfl, ⟨rfl, ⟨rfl, trivial⟩⟩⟩⟩⟩⟩) ?_
        exact ih hf kk
      clear hf
      refine zEv_if 4 (c := x678 ≤ 1) (f1 := (74, [some (.ref 73), some (.int x677), some (.int v2), some (.int v3), some (.int x678), none], [.int v2])) (f2 := (56, [some (.ref 73), some (.int x677), some (.int v2), some (.int v3), some (.int x678), none], [.int v2])) (h1 := zHp I) (fun n => rfl) (fun hc => ?_) (fun hc => ?_)
      · rw [if_pos hc] at hm_m679
        obtain rfl := Option.some.inj hm_m679
        refine zEv_go 1 (f1 := (75, [some (.ref 73), some (.int x677), some (.int v2), some (.int v3), some (.int x678), none], [.int 0, .int v2])) (h1 := zHp I) (fun n => rfl) ?_
        exact zEv_weak (L := [some (.ref 73), some (.int x677), none, some (.int v3), none, none]) (by exact ⟨rfl, ⟨rfl, ⟨rfl, ⟨rfl, ⟨rfl, ⟨rfl, trivial⟩⟩⟩⟩⟩⟩) hJ_m679
      · rw [if_neg hc] at hm_m679
        refine zEv_if 2 (c := v3 = 0) (f1 := (60, [some (.ref 73), some (.int x677), some (.int v2), some (.int v3), some (.int x678), none], [.int v2])) (f2 := (67, [some (.ref 73), some (.int x677), some (.int v2), some (.int v3), some (.int x678), none], [.int v2])) (h1 := zHp I) (fun n => rfl) (fun hc => ?_) (fun hc => ?_)
        · rw [if_pos hc] at hm_m679
          obtain rfl := Option.some.inj hm_m679
          refine zEv_go 4 (f1 := (75, [some (.ref 73), some (.int x677), some (.int v2), some (.int v3), some (.int x678), none], [.int (x678 - 1), .int v2])) (h1 := zHp I) (fun n => rfl) ?_
          exact zEv_weak (L := [some (.ref 73), some (.int x677), none, some (.int v3), none, none]) (by exact ⟨rfl, ⟨rfl, ⟨rfl, ⟨rfl, ⟨rfl, ⟨rfl, trivial⟩⟩⟩⟩⟩⟩) hJ_m679
        · rw [if_neg hc] at hm_m679
          obtain rfl := Option.some.inj hm_m679
          refine zEv_go 4 (f1 := (75, [some (.ref 73), some (.int x677), some (.int v2), some (.int v3), some (.int x678), none], [.int (x678 + 1), .int v2])) (h1 := zHp I) (fun n => rfl) ?_
          exact zEv_weak (L := [some (.ref 73), some (.int x677), none, some (.int v3), none, none]) (by exact ⟨rfl, ⟨rfl, ⟨rfl, ⟨rfl, ⟨rfl, ⟨rfl, trivial⟩⟩⟩⟩⟩⟩) hJ_m679
def Mo_sitsBy (n : Nat) (I : zI) : Option (Int32) :=
  (Mo_sitsBy_L6 n 0 0 0 I).bind fun x681 =>
  some x681
theorem s_Mo_sitsBy {n : Nat} {I : zI} {r : Int32} (hf : Mo_sitsBy n I = some r) (d : Nat) (hd : 1 ≤ d) : zCall d 167 [.ref 73] (zHp I) (some (.int r)) (zHp I) := by
  obtain ⟨d, rfl⟩ : ∃ e, d = e + 1 := ⟨d - 1, by omega⟩
  rw [Mo_sitsBy] at hf
  show zEv _ _ _ (0, [some (.ref 73), none, none, none, none, none], []) _ _ _
  obtain ⟨x681, hx, hf⟩ := Option.bind_eq_some_iff.mp hf
  refine zEv_go 6 (f1 := (6, [some (.ref 73), some (.int 0), some (.int 0), some (.int 0), none, none], [])) (h1 := zHp I) (fun n => rfl) ?_
  refine zEv_weak (L := [some (.ref 73), some (.int 0), some (.int 0), some (.int 0), none, none]) (by exact ⟨rfl, ⟨rfl, ⟨rfl, ⟨rfl, ⟨rfl, ⟨rfl, trivial⟩⟩⟩⟩⟩⟩) (s_Mo_sitsBy_L6 (d + 1) (by omega) n hx ?_)
  cases hf
  exact zEv_ret 2 (fun n => rfl)
def Mo_seat  (a0 : Int32) (I : zI) : Option (zI) :=
  if zIn a0 7 then
    if zIn a0 7 then
      some (zUp (zUp I 90 0 (I 90 (Int32.toNatClampNeg a0))) 90 (Int32.toNatClampNeg a0) (I 90 0))
    else none
  else none
theorem s_Mo_seat  {a0 : Int32} {I : zI} {I' : zI} (hf : Mo_seat a0 I = some I') (d : Nat) (hd : 0 ≤ d) : zCall d 168 [.ref 73, .int a0] (zHp I) (none) (zHp I') := by
  rw [Mo_seat] at hf
  show zEv _ _ _ (0, [some (.ref 73), some (.int a0), none], []) _ _ _
  obtain ⟨hc, hf⟩ := zGd_inv hf
  refine zEv_gd 12 (c := zIn a0 7) (f1 := (18, [some (.ref 73), some (.int a0), some (.int (I 90 0))], [.int (I 90 (Int32.toNatClampNeg a0)), .int 0, .ref 90])) (h1 := zHp I) (fun n => rfl) hc ?_
  obtain ⟨hc, hf⟩ := zGd_inv hf
  refine zEv_gd 6 (c := zIn a0 7) (f1 := (26, [some (.ref 73), some (.int a0), some (.int (I 90 0))], [])) (h1 := zHp (zUp (zUp I 90 0 (I 90 (Int32.toNatClampNeg a0))) 90 (Int32.toNatClampNeg a0) (I 90 0))) (fun n => rfl) hc ?_
  cases hf
  exact zEv_ret 1 (fun n => rfl)
def Mo_right_L52 : Nat → Int32 → Int32 → Int32 → zI → Option (Int32 × zI)
  | 0, _, _, _, _ => none
  | n + 1, v3, v4, v5, I =>
    if v5 ≤ 0 then
      some (v4, I)
    else
      (Mo_seat v5 I).bind fun I683 =>
      (Mo_sitsBy n I683).bind fun x684 =>
      (
        if x684 = (v3 - 1) then
          some v5
        else
          some v4 : Option (Int32)).bind fun x686 =>
      (Mo_seat v5 I683).bind fun I687 =>
      Mo_right_L52 n v3 x686 (v5 + (-1)) I687
theorem s_Mo_right_L52 (d : Nat) (hd : 2 ≤ d) : ∀ (n : Nat) {v3 : Int32} {v4 : Int32} {v5 : Int32} {I : zI} {y4 : Int32} {I' : zI} {v : Option Value} {h' : zH}, Mo_right_L52 n v3 v4 v5 I = some (y4, I') → zEv none d 169 (94, [some (.ref 73), none, none, none, some (.int y4), none], []) (zHp I') v h' → zEv none d 169 (52, [some (.ref 73), none, none, some (.int v3), some (.int v4), some (.int v5)], []) (zHp I) v h' := by
  obtain ⟨d, rfl⟩ : ∃ e, d = e + 1 := ⟨d - 1, by omega⟩
  intro n
  induction n with
  | zero => intros; rename_i hf _; cases hf
  | succ n ih =>
    intro v3 v4 v5 I y4 I' v h' hf kk
    rw [Mo_right_L52] at hf
    refine zEv_if 2 (c := v5 ≤ 0) (f1 := (94, [some (.ref 73), none, none, some (.int v3), some (.int v4), some (.int v5)], [])) (f2 := (57, [some (.ref 73), none, none, some (.int v3), some (.int v4), some (.int v5)], [])) (h1 := zHp I) (fun n => rfl) (fun hc => ?_) (fun hc => ?_)
    · rw [if_pos hc] at hf
      have hq0 := Option.some.inj hf
      obtain ⟨he0, hq1⟩ := Prod.mk.inj hq0
      subst he0
      subst hq1
      exact zEv_weak (L := [some (.ref 73), none, none, none, some (.int v4), none]) (by exact ⟨rfl, ⟨rfl, ⟨rfl, ⟨rfl, ⟨rfl, ⟨rfl, trivial⟩⟩⟩⟩⟩⟩) kk
    · rw [if_neg hc] at hf
      obtain ⟨I683, hx, hf⟩ := Option.bind_eq_some_iff.mp hf
      refine zEv_call 3 (N := 168) (vs := [.ref 73, .int v5]) (v1 := none) (h1 := zHp I683) (L := [some (.ref 73), none, none, some (.int v3), some (.int v4), some (.int v5)]) (rest := []) (pc := 63) (fun n => rfl) (s_Mo_seat hx d (by omega)) rfl rfl ?_
      show zEv _ _ _ (63, [some (.ref 73), none, none, some (.int v3), some (.int v4), some (.int v5)], []) _ _ _
      obtain ⟨x684, hx, hf⟩ := Option.bind_eq_some_iff.mp hf
      refine zEv_call 2 (N := 167) (vs := [.ref 73]) (v1 := some (.int x684)) (h1 := zHp I683) (L := [some (.ref 73), none, none, some (.int v3), some (.int v4), some (.int v5)]) (rest := []) (pc := 67) (fun n => rfl) (s_Mo_sitsBy hx d (by omega)) rfl rfl ?_
      show zEv _ _ _ (67, [some (.ref 73), none, none, some (.int v3), some (.int v4), some (.int v5)], [.int x684]) _ _ _
      obtain ⟨x686, hm_m685, hf⟩ := Option.bind_eq_some_iff.mp hf
      have hJ_m685 : zEv none (d + 1) 169 (80, [some (.ref 73), none, none, some (.int v3), none, some (.int v5)], [.int x686]) (zHp I683) v h' := by
        obtain ⟨I687, hx, hf⟩ := Option.bind_eq_some_iff.mp hf
        refine zEv_call 4 (N := 168) (vs := [.ref 73, .int v5]) (v1 := none) (h1 := zHp I687) (L := [some (.ref 73), none, none, some (.int v3), some (.int x686), some (.int v5)]) (rest := []) (pc := 88) (fun n => rfl) (s_Mo_seat hx d (by omega)) rfl rfl ?_
        show zEv _ _ _ (88, [some (.ref 73), none, none, some (.int v3), some (.int x686), some (.int v5)], []) _ _ _
        refine zEv_go 2 (f1 := (52, [some (.ref 73), none, none, some (.int v3), some (.int x686), some (.int (v5 + (-1)))], [])) (h1 := zHp I687) (fun n => rfl) ?_
        refine zEv_weak (L := [some (.ref 73), none, none, some (.int v3), some (.int x686), some (.int (v5 + (-1)))]) (by exact ⟨rfl, ⟨rfl, ⟨rfl, ⟨rfl, ⟨rfl, ⟨rfl, trivial⟩⟩⟩⟩⟩⟩) ?_
        exact ih hf kk
      clear hf
      refine zEv_if 4 (c := x684 = (v3 - 1)) (f1 := (73, [some (.ref 73), none, none, some (.int v3), some (.int v4), some (.int v5)], [])) (f2 := (78, [some (.ref 73), none, none, some (.int v3), some (.int v4), some (.int v5)], [])) (h1 := zHp I683) (fun n => rfl) (fun hc => ?_) (fun hc => ?_)
      · rw [if_pos hc] at hm_m685
        obtain rfl := Option.some.inj hm_m685
        refine zEv_go 2 (f1 := (80, [some (.ref 73), none, none, some (.int v3), some (.int v4), some (.int v5)], [.int v5])) (h1 := zHp I683) (fun n => rfl) ?_
        exact zEv_weak (L := [some (.ref 73), none, none, some (.int v3), none, some (.int v5)]) (by exact ⟨rfl, ⟨rfl, ⟨rfl, ⟨rfl, ⟨rfl, ⟨rfl, trivial⟩⟩⟩⟩⟩⟩) hJ_m685
      · rw [if_neg hc] at hm_m685
        obtain rfl := Option.some.inj hm_m685
        refine zEv_go 1 (f1 := (80, [some (.ref 73), none, none, some (.int v3), some (.int v4), some (.int v5)], [.int v4])) (h1 := zHp I683) (fun n => rfl) ?_
        exact zEv_weak (L := [some (.ref 73), none, none, some (.int v3), none, some (.int v5)]) (by exact ⟨rfl, ⟨rfl, ⟨rfl, ⟨rfl, ⟨rfl, ⟨rfl, trivial⟩⟩⟩⟩⟩⟩) hJ_m685
def Mo_right (n : Nat) (a0 : Int32) (a1 : Int32) (I : zI) : Option (Int32 × zI) :=
  (Mo_in (Int32.toInt64 a0) 0 9999999 I).bind fun x669 =>
  if x669 = 0 then
    some ((-2), I)
  else
    (Mo_readSeven n a0 I).bind fun (x673, I674) =>
    if x673 = 0 then
      some ((-2), I674)
    else
      (Mo_in (Int32.toInt64 a1) 0 1 I674).bind fun x675 =>
      if x675 = 0 then
        some ((-2), I674)
      else
        (Mo_sitsBy n I674).bind fun x682 =>
        if a1 = 0 then
          some (x682, I674)
        else
          (Mo_right_L52 n x682 (-6) 6 I674).bind fun (x688, I689) =>
          some (x688, I689)
theorem s_Mo_right {n : Nat} {a0 : Int32} {a1 : Int32} {I : zI} {r : Int32} {I' : zI} (hf : Mo_right n a0 a1 I = some (r, I')) (d : Nat) (hd : 2 ≤ d) : zCall d 169 [.ref 73, .int a0, .int a1] (zHp I) (some (.int r)) (zHp I') := by
  obtain ⟨d, rfl⟩ : ∃ e, d = e + 1 := ⟨d - 1, by omega⟩
  rw [Mo_right] at hf
  show zEv _ _ _ (0, [some (.ref 73), some (.int a0), some (.int a1), none, none, none], []) _ _ _
  obtain ⟨x669, hx, hf⟩ := Option.bind_eq_some_iff.mp hf
  refine zEv_call 5 (N := 117) (vs := [.long (Int32.toInt64 a0), .long 0, .long 9999999]) (v1 := some (.int x669)) (h1 := zHp I) (L := [some (.ref 73), some (.int a0), some (.int a1), none, none, none]) (rest := []) (pc := 9) (fun n => rfl) (s_Mo_in hx d (by omega)) rfl rfl ?_
  show zEv _ _ _ (9, [some (.ref 73), some (.int a0), some (.int a1), none, none, none], [.int x669]) _ _ _
  refine zEv_if 1 (c := x669 = 0) (f1 := (30, [some (.ref 73), some (.int a0), some (.int a1), none, none, none], [])) (f2 := (12, [some (.ref 73), some (.int a0), some (.int a1), none, none, none], [])) (h1 := zHp I) (fun n => rfl) (fun hc => ?_) (fun hc => ?_)
  · rw [if_pos hc] at hf
    cases hf
    exact zEv_ret 2 (fun n => rfl)
  · rw [if_neg hc] at hf
    obtain ⟨⟨x673, I674⟩, hx, hf⟩ := Option.bind_eq_some_iff.mp hf
    dsimp only at hf
    refine zEv_call 3 (N := 166) (vs := [.ref 73, .int a0]) (v1 := some (.int x673)) (h1 := zHp I674) (L := [some (.ref 73), some (.int a0), some (.int a1), none, none, none]) (rest := []) (pc := 17) (fun n => rfl) (s_Mo_readSeven hx d (by omega)) rfl rfl ?_
    show zEv _ _ _ (17, [some (.ref 73), some (.int a0), some (.int a1), none, none, none], [.int x673]) _ _ _
    refine zEv_if 1 (c := x673 = 0) (f1 := (30, [some (.ref 73), some (.int a0), some (.int a1), none, none, none], [])) (f2 := (20, [some (.ref 73), some (.int a0), some (.int a1), none, none, none], [])) (h1 := zHp I674) (fun n => rfl) (fun hc => ?_) (fun hc => ?_)
    · rw [if_pos hc] at hf
      cases hf
      exact zEv_ret 2 (fun n => rfl)
    · rw [if_neg hc] at hf
      obtain ⟨x675, hx, hf⟩ := Option.bind_eq_some_iff.mp hf
      refine zEv_call 5 (N := 117) (vs := [.long (Int32.toInt64 a1), .long 0, .long 1]) (v1 := some (.int x675)) (h1 := zHp I674) (L := [some (.ref 73), some (.int a0), some (.int a1), none, none, none]) (rest := []) (pc := 27) (fun n => rfl) (s_Mo_in hx d (by omega)) rfl rfl ?_
      show zEv _ _ _ (27, [some (.ref 73), some (.int a0), some (.int a1), none, none, none], [.int x675]) _ _ _
      refine zEv_if 1 (c := x675 = 0) (f1 := (30, [some (.ref 73), some (.int a0), some (.int a1), none, none, none], [])) (f2 := (33, [some (.ref 73), some (.int a0), some (.int a1), none, none, none], [])) (h1 := zHp I674) (fun n => rfl) (fun hc => ?_) (fun hc => ?_)
      · rw [if_pos hc] at hf
        cases hf
        exact zEv_ret 2 (fun n => rfl)
      · rw [if_neg hc] at hf
        obtain ⟨x682, hx, hf⟩ := Option.bind_eq_some_iff.mp hf
        refine zEv_call 2 (N := 167) (vs := [.ref 73]) (v1 := some (.int x682)) (h1 := zHp I674) (L := [some (.ref 73), some (.int a0), some (.int a1), none, none, none]) (rest := []) (pc := 37) (fun n => rfl) (s_Mo_sitsBy hx d (by omega)) rfl rfl ?_
        show zEv _ _ _ (37, [some (.ref 73), some (.int a0), some (.int a1), none, none, none], [.int x682]) _ _ _
        refine zEv_if 3 (c := a1 = 0) (f1 := (42, [some (.ref 73), some (.int a0), some (.int a1), some (.int x682), none, none], [])) (f2 := (44, [some (.ref 73), some (.int a0), some (.int a1), some (.int x682), none, none], [])) (h1 := zHp I674) (fun n => rfl) (fun hc => ?_) (fun hc => ?_)
        · rw [if_pos hc] at hf
          cases hf
          exact zEv_ret 2 (fun n => rfl)
        · rw [if_neg hc] at hf
          obtain ⟨⟨x688, I689⟩, hx, hf⟩ := Option.bind_eq_some_iff.mp hf
          dsimp only at hf
          refine zEv_go 4 (f1 := (52, [some (.ref 73), some (.int a0), some (.int a1), some (.int x682), some (.int (-6)), some (.int 6)], [])) (h1 := zHp I674) (fun n => rfl) ?_
          refine zEv_weak (L := [some (.ref 73), none, none, some (.int x682), some (.int (-6)), some (.int 6)]) (by exact ⟨rfl, ⟨rfl, ⟨rfl, ⟨rfl, ⟨rfl, ⟨rfl, trivial⟩⟩⟩⟩⟩⟩) (s_Mo_right_L52 (d + 1) (by omega) n hx ?_)
          cases hf
          exact zEv_ret 2 (fun n => rfl)
def Mo_seen  (a0 : Int32) (a1 : Int32) (a2 : Int32) (I : zI) : Option (Int32 × zI) :=
  (Mo_in (Int32.toInt64 a0) 0 60 I).bind fun x690 =>
  if x690 = 0 then
    some ((-2), I)
  else
    (Mo_in (Int32.toInt64 a1) 0 7 I).bind fun x691 =>
    if x691 = 0 then
      some ((-2), I)
    else
      if (I 73 10) = 8 then
        some ((-4), I)
      else
        if zIn (I 73 10) 8 then
          if zIn ((zUp I 79 (Int32.toNatClampNeg (I 73 10)) a0) 73 10) 8 then
            (
              if a2 = 0 then
                some 0
              else
                some 1 : Option (Int32)).bind fun x693 =>
            if zIn ((zUp (zUp I 79 (Int32.toNatClampNeg (I 73 10)) a0) 80 (Int32.toNatClampNeg ((zUp I 79 (Int32.toNatClampNeg (I 73 10)) a0) 73 10)) a1) 73 10) 8 then
              some (((zUp (zUp (zUp (zUp I 79 (Int32.toNatClampNeg (I 73 10)) a0) 80 (Int32.toNatClampNeg ((zUp I 79 (Int32.toNatClampNeg (I 73 10)) a0) 73 10)) a1) 81 (Int32.toNatClampNeg ((zUp (zUp I 79 (Int32.toNatClampNeg (I 73 10)) a0) 80 (Int32.toNatClampNeg ((zUp I 79 (Int32.toNatClampNeg (I 73 10)) a0) 73 10)) a1) 73 10)) x693) 73 10 (((zUp (zUp (zUp I 79 (Int32.toNatClampNeg (I 73 10)) a0) 80 (Int32.toNatClampNeg ((zUp I 79 (Int32.toNatClampNeg (I 73 10)) a0) 73 10)) a1) 81 (Int32.toNatClampNeg ((zUp (zUp I 79 (Int32.toNatClampNeg (I 73 10)) a0) 80 (Int32.toNatClampNeg ((zUp I 79 (Int32.toNatClampNeg (I 73 10)) a0) 73 10)) a1) 73 10)) x693) 73 10) + 1)) 73 10), (zUp (zUp (zUp (zUp I 79 (Int32.toNatClampNeg (I 73 10)) a0) 80 (Int32.toNatClampNeg ((zUp I 79 (Int32.toNatClampNeg (I 73 10)) a0) 73 10)) a1) 81 (Int32.toNatClampNeg ((zUp (zUp I 79 (Int32.toNatClampNeg (I 73 10)) a0) 80 (Int32.toNatClampNeg ((zUp I 79 (Int32.toNatClampNeg (I 73 10)) a0) 73 10)) a1) 73 10)) x693) 73 10 (((zUp (zUp (zUp I 79 (Int32.toNatClampNeg (I 73 10)) a0) 80 (Int32.toNatClampNeg ((zUp I 79 (Int32.toNatClampNeg (I 73 10)) a0) 73 10)) a1) 81 (Int32.toNatClampNeg ((zUp (zUp I 79 (Int32.toNatClampNeg (I 73 10)) a0) 80 (Int32.toNatClampNeg ((zUp I 79 (Int32.toNatClampNeg (I 73 10)) a0) 73 10)) a1) 73 10)) x693) 73 10) + 1)))
            else none
          else none
        else none
theorem s_Mo_seen  {a0 : Int32} {a1 : Int32} {a2 : Int32} {I : zI} {r : Int32} {I' : zI} (hf : Mo_seen a0 a1 a2 I = some (r, I')) (d : Nat) (hd : 1 ≤ d) : zCall d 170 [.ref 73, .int a0, .int a1, .int a2] (zHp I) (some (.int r)) (zHp I') := by
  obtain ⟨d, rfl⟩ : ∃ e, d = e + 1 := ⟨d - 1, by omega⟩
  rw [Mo_seen] at hf
  show zEv _ _ _ (0, [some (.ref 73), some (.int a0), some (.int a1), some (.int a2)], []) _ _ _
  obtain ⟨x690, hx, hf⟩ := Option.bind_eq_some_iff.mp hf
  refine zEv_call 5 (N := 117) (vs := [.long (Int32.toInt64 a0), .long 0, .long 60]) (v1 := some (.int x690)) (h1 := zHp I) (L := [some (.ref 73), some (.int a0), some (.int a1), some (.int a2)]) (rest := []) (pc := 9) (fun n => rfl) (s_Mo_in hx d (by omega)) rfl rfl ?_
  show zEv _ _ _ (9, [some (.ref 73), some (.int a0), some (.int a1), some (.int a2)], [.int x690]) _ _ _
  refine zEv_if 1 (c := x690 = 0) (f1 := (24, [some (.ref 73), some (.int a0), some (.int a1), some (.int a2)], [])) (f2 := (12, [some (.ref 73), some (.int a0), some (.int a1), some (.int a2)], [])) (h1 := zHp I) (fun n => rfl) (fun hc => ?_) (fun hc => ?_)
  · rw [if_pos hc] at hf
    cases hf
    exact zEv_ret 2 (fun n => rfl)
  · rw [if_neg hc] at hf
    obtain ⟨x691, hx, hf⟩ := Option.bind_eq_some_iff.mp hf
    refine zEv_call 5 (N := 117) (vs := [.long (Int32.toInt64 a1), .long 0, .long 7]) (v1 := some (.int x691)) (h1 := zHp I) (L := [some (.ref 73), some (.int a0), some (.int a1), some (.int a2)]) (rest := []) (pc := 21) (fun n => rfl) (s_Mo_in hx d (by omega)) rfl rfl ?_
    show zEv _ _ _ (21, [some (.ref 73), some (.int a0), some (.int a1), some (.int a2)], [.int x691]) _ _ _
    refine zEv_if 1 (c := x691 = 0) (f1 := (24, [some (.ref 73), some (.int a0), some (.int a1), some (.int a2)], [])) (f2 := (27, [some (.ref 73), some (.int a0), some (.int a1), some (.int a2)], [])) (h1 := zHp I) (fun n => rfl) (fun hc => ?_) (fun hc => ?_)
    · rw [if_pos hc] at hf
      cases hf
      exact zEv_ret 2 (fun n => rfl)
    · rw [if_neg hc] at hf
      refine zEv_if 4 (c := (I 73 10) = 8) (f1 := (36, [some (.ref 73), some (.int a0), some (.int a1), some (.int a2)], [])) (f2 := (39, [some (.ref 73), some (.int a0), some (.int a1), some (.int a2)], [])) (h1 := zHp I) (fun n => rfl) (fun hc => ?_) (fun hc => ?_)
      · rw [if_pos hc] at hf
        cases hf
        exact zEv_ret 2 (fun n => rfl)
      · rw [if_neg hc] at hf
        obtain ⟨hc, hf⟩ := zGd_inv hf
        refine zEv_gd 6 (c := zIn (I 73 10) 8) (f1 := (49, [some (.ref 73), some (.int a0), some (.int a1), some (.int a2)], [])) (h1 := zHp (zUp I 79 (Int32.toNatClampNeg (I 73 10)) a0)) (fun n => rfl) hc ?_
        obtain ⟨hc, hf⟩ := zGd_inv hf
        refine zEv_gd 6 (c := zIn ((zUp I 79 (Int32.toNatClampNeg (I 73 10)) a0) 73 10) 8) (f1 := (59, [some (.ref 73), some (.int a0), some (.int a1), some (.int a2)], [])) (h1 := zHp (zUp (zUp I 79 (Int32.toNatClampNeg (I 73 10)) a0) 80 (Int32.toNatClampNeg ((zUp I 79 (Int32.toNatClampNeg (I 73 10)) a0) 73 10)) a1)) (fun n => rfl) hc ?_
        obtain ⟨x693, hm_m692, hf⟩ := Option.bind_eq_some_iff.mp hf
        have hJ_m692 : zEv none (d + 1) 170 (76, [some (.ref 73), none, none, none], [.int x693, .int ((zUp (zUp I 79 (Int32.toNatClampNeg (I 73 10)) a0) 80 (Int32.toNatClampNeg ((zUp I 79 (Int32.toNatClampNeg (I 73 10)) a0) 73 10)) a1) 73 10), .ref 81]) (zHp (zUp (zUp I 79 (Int32.toNatClampNeg (I 73 10)) a0) 80 (Int32.toNatClampNeg ((zUp I 79 (Int32.toNatClampNeg (I 73 10)) a0) 73 10)) a1)) (some (.int r)) (zHp I') := by
          obtain ⟨hc, hf⟩ := zGd_inv hf
          refine zEv_gd 1 (c := zIn ((zUp (zUp I 79 (Int32.toNatClampNeg (I 73 10)) a0) 80 (Int32.toNatClampNeg ((zUp I 79 (Int32.toNatClampNeg (I 73 10)) a0) 73 10)) a1) 73 10) 8) (f1 := (77, [some (.ref 73), none, none, none], [])) (h1 := zHp (zUp (zUp (zUp I 79 (Int32.toNatClampNeg (I 73 10)) a0) 80 (Int32.toNatClampNeg ((zUp I 79 (Int32.toNatClampNeg (I 73 10)) a0) 73 10)) a1) 81 (Int32.toNatClampNeg ((zUp (zUp I 79 (Int32.toNatClampNeg (I 73 10)) a0) 80 (Int32.toNatClampNeg ((zUp I 79 (Int32.toNatClampNeg (I 73 10)) a0) 73 10)) a1) 73 10)) x693)) (fun n => rfl) hc ?_
          cases hf
          exact zEv_ret 9 (fun n => rfl)
        clear hf
        refine zEv_if 6 (c := a2 = 0) (f1 := (75, [some (.ref 73), some (.int a0), some (.int a1), some (.int a2)], [.int ((zUp (zUp I 79 (Int32.toNatClampNeg (I 73 10)) a0) 80 (Int32.toNatClampNeg ((zUp I 79 (Int32.toNatClampNeg (I 73 10)) a0) 73 10)) a1) 73 10), .ref 81])) (f2 := (71, [some (.ref 73), some (.int a0), some (.int a1), some (.int a2)], [.int ((zUp (zUp I 79 (Int32.toNatClampNeg (I 73 10)) a0) 80 (Int32.toNatClampNeg ((zUp I 79 (Int32.toNatClampNeg (I 73 10)) a0) 73 10)) a1) 73 10), .ref 81])) (h1 := zHp (zUp (zUp I 79 (Int32.toNatClampNeg (I 73 10)) a0) 80 (Int32.toNatClampNeg ((zUp I 79 (Int32.toNatClampNeg (I 73 10)) a0) 73 10)) a1)) (fun n => rfl) (fun hc => ?_) (fun hc => ?_)
        · rw [if_pos hc] at hm_m692
          obtain rfl := Option.some.inj hm_m692
          refine zEv_go 1 (f1 := (76, [some (.ref 73), some (.int a0), some (.int a1), some (.int a2)], [.int 0, .int ((zUp (zUp I 79 (Int32.toNatClampNeg (I 73 10)) a0) 80 (Int32.toNatClampNeg ((zUp I 79 (Int32.toNatClampNeg (I 73 10)) a0) 73 10)) a1) 73 10), .ref 81])) (h1 := zHp (zUp (zUp I 79 (Int32.toNatClampNeg (I 73 10)) a0) 80 (Int32.toNatClampNeg ((zUp I 79 (Int32.toNatClampNeg (I 73 10)) a0) 73 10)) a1)) (fun n => rfl) ?_
          exact zEv_weak (L := [some (.ref 73), none, none, none]) (by exact ⟨rfl, ⟨rfl, ⟨rfl, ⟨rfl, trivial⟩⟩⟩⟩) hJ_m692
        · rw [if_neg hc] at hm_m692
          obtain rfl := Option.some.inj hm_m692
          refine zEv_go 2 (f1 := (76, [some (.ref 73), some (.int a0), some (.int a1), some (.int a2)], [.int 1, .int ((zUp (zUp I 79 (Int32.toNatClampNeg (I 73 10)) a0) 80 (Int32.toNatClampNeg ((zUp I 79 (Int32.toNatClampNeg (I 73 10)) a0) 73 10)) a1) 73 10), .ref 81])) (h1 := zHp (zUp (zUp I 79 (Int32.toNatClampNeg (I 73 10)) a0) 80 (Int32.toNatClampNeg ((zUp I 79 (Int32.toNatClampNeg (I 73 10)) a0) 73 10)) a1)) (fun n => rfl) ?_
          exact zEv_weak (L := [some (.ref 73), none, none, none]) (by exact ⟨rfl, ⟨rfl, ⟨rfl, ⟨rfl, trivial⟩⟩⟩⟩) hJ_m692
def Mo_clear  (I : zI) : Option (Int32 × zI) :=
  some ((I 73 10), (zUp I 73 10 0))
theorem s_Mo_clear  {I : zI} {r : Int32} {I' : zI} (hf : Mo_clear I = some (r, I')) (d : Nat) (hd : 0 ≤ d) : zCall d 171 [.ref 73] (zHp I) (some (.int r)) (zHp I') := by
  rw [Mo_clear] at hf
  show zEv _ _ _ (0, [some (.ref 73), none], []) _ _ _
  cases hf
  exact zEv_ret 8 (fun n => rfl)
def Mo_whoHas_L13 : Nat → Int32 → Int32 → Int32 → Int32 → zI → Option (Int32)
  | 0, _, _, _, _, _ => none
  | n + 1, v1, v2, v3, v4, I =>
    if v1 ≤ v4 then
      some v3
    else
      if ¬ v2 = 0 then
        (
          if 0 ≤ v3 then
            if v3 = (zRem v4 v2) then
              some (-6)
            else
              some v3
          else
            some (zRem v4 v2) : Option (Int32)).bind fun x698 =>
        Mo_whoHas_L13 n v1 v2 x698 (v4 + 1) I
      else none
theorem s_Mo_whoHas_L13 (d : Nat) (hd : 0 ≤ d) : ∀ (n : Nat) {v1 : Int32} {v2 : Int32} {v3 : Int32} {v4 : Int32} {I : zI} {y3 : Int32} {v : Option Value} {h' : zH}, Mo_whoHas_L13 n v1 v2 v3 v4 I = some y3 → zEv none d 172 (53, [none, none, none, some (.int y3), none, none], []) (zHp I) v h' → zEv none d 172 (13, [none, some (.int v1), some (.int v2), some (.int v3), some (.int v4), none], []) (zHp I) v h' := by
  intro n
  induction n with
  | zero => intros; rename_i hf _; cases hf
  | succ n ih =>
    intro v1 v2 v3 v4 I y3 v h' hf kk
    rw [Mo_whoHas_L13] at hf
    refine zEv_if 3 (c := v1 ≤ v4) (f1 := (53, [none, some (.int v1), some (.int v2), some (.int v3), some (.int v4), none], [])) (f2 := (19, [none, some (.int v1), some (.int v2), some (.int v3), some (.int v4), none], [])) (h1 := zHp I) (fun n => rfl) (fun hc => ?_) (fun hc => ?_)
    · rw [if_pos hc] at hf
      obtain rfl := Option.some.inj hf
      exact zEv_weak (L := [none, none, none, some (.int v3), none, none]) (by exact ⟨rfl, ⟨rfl, ⟨rfl, ⟨rfl, ⟨rfl, ⟨rfl, trivial⟩⟩⟩⟩⟩⟩) kk
    · rw [if_neg hc] at hf
      obtain ⟨hc, hf⟩ := zGd_inv hf
      refine zEv_gd 3 (c := ¬ v2 = 0) (f1 := (23, [none, some (.int v1), some (.int v2), some (.int v3), some (.int v4), none], [.int (zRem v4 v2)])) (h1 := zHp I) (fun n => rfl) hc ?_
      obtain ⟨x698, hm_m697, hf⟩ := Option.bind_eq_some_iff.mp hf
      have hJ_m697 : zEv none (d) 172 (46, [none, some (.int v1), some (.int v2), none, some (.int v4), none], [.int x698]) (zHp I) v h' := by
        refine zEv_go 3 (f1 := (13, [none, some (.int v1), some (.int v2), some (.int x698), some (.int (v4 + 1)), none], [])) (h1 := zHp I) (fun n => rfl) ?_
        refine zEv_weak (L := [none, some (.int v1), some (.int v2), some (.int x698), some (.int (v4 + 1)), none]) (by exact ⟨rfl, ⟨rfl, ⟨rfl, ⟨rfl, ⟨rfl, ⟨rfl, trivial⟩⟩⟩⟩⟩⟩) ?_
        exact ih hf kk
      clear hf
      refine zEv_if 3 (c := 0 ≤ v3) (f1 := (34, [none, some (.int v1), some (.int v2), some (.int v3), some (.int v4), some (.int (zRem v4 v2))], [])) (f2 := (29, [none, some (.int v1), some (.int v2), some (.int v3), some (.int v4), some (.int (zRem v4 v2))], [])) (h1 := zHp I) (fun n => rfl) (fun hc => ?_) (fun hc => ?_)
      · rw [if_pos hc] at hm_m697
        refine zEv_if 3 (c := v3 = (zRem v4 v2)) (f1 := (40, [none, some (.int v1), some (.int v2), some (.int v3), some (.int v4), some (.int (zRem v4 v2))], [])) (f2 := (45, [none, some (.int v1), some (.int v2), some (.int v3), some (.int v4), some (.int (zRem v4 v2))], [])) (h1 := zHp I) (fun n => rfl) (fun hc => ?_) (fun hc => ?_)
        · rw [if_pos hc] at hm_m697
          obtain rfl := Option.some.inj hm_m697
          refine zEv_go 2 (f1 := (46, [none, some (.int v1), some (.int v2), some (.int v3), some (.int v4), some (.int (zRem v4 v2))], [.int (-6)])) (h1 := zHp I) (fun n => rfl) ?_
          exact zEv_weak (L := [none, some (.int v1), some (.int v2), none, some (.int v4), none]) (by exact ⟨rfl, ⟨rfl, ⟨rfl, ⟨rfl, ⟨rfl, ⟨rfl, trivial⟩⟩⟩⟩⟩⟩) hJ_m697
        · rw [if_neg hc] at hm_m697
          obtain rfl := Option.some.inj hm_m697
          refine zEv_go 1 (f1 := (46, [none, some (.int v1), some (.int v2), some (.int v3), some (.int v4), some (.int (zRem v4 v2))], [.int v3])) (h1 := zHp I) (fun n => rfl) ?_
          exact zEv_weak (L := [none, some (.int v1), some (.int v2), none, some (.int v4), none]) (by exact ⟨rfl, ⟨rfl, ⟨rfl, ⟨rfl, ⟨rfl, ⟨rfl, trivial⟩⟩⟩⟩⟩⟩) hJ_m697
      · rw [if_neg hc] at hm_m697
        obtain rfl := Option.some.inj hm_m697
        refine zEv_go 2 (f1 := (46, [none, some (.int v1), some (.int v2), some (.int v3), some (.int v4), some (.int (zRem v4 v2))], [.int (zRem v4 v2)])) (h1 := zHp I) (fun n => rfl) ?_
        exact zEv_weak (L := [none, some (.int v1), some (.int v2), none, some (.int v4), none]) (by exact ⟨rfl, ⟨rfl, ⟨rfl, ⟨rfl, ⟨rfl, ⟨rfl, trivial⟩⟩⟩⟩⟩⟩) hJ_m697
def Mo_whoHas (n : Nat) (a0 : Int32) (a1 : Int32) (I : zI) : Option (Int32) :=
  (Mo_whoHas_L13 n a1 (a0 / 10) (zRem a0 10) 0 I).bind fun x699 =>
  some x699
theorem s_Mo_whoHas {n : Nat} {a0 : Int32} {a1 : Int32} {I : zI} {r : Int32} (hf : Mo_whoHas n a0 a1 I = some r) (d : Nat) (hd : 0 ≤ d) : zCall d 172 [.int a0, .int a1] (zHp I) (some (.int r)) (zHp I) := by
  rw [Mo_whoHas] at hf
  show zEv _ _ _ (0, [some (.int a0), some (.int a1), none, none, none, none], []) _ _ _
  obtain ⟨x699, hx, hf⟩ := Option.bind_eq_some_iff.mp hf
  refine zEv_go 10 (f1 := (13, [some (.int a0), some (.int a1), some (.int (a0 / 10)), some (.int (zRem a0 10)), some (.int 0), none], [])) (h1 := zHp I) (fun n => rfl) ?_
  refine zEv_weak (L := [none, some (.int a1), some (.int (a0 / 10)), some (.int (zRem a0 10)), some (.int 0), none]) (by exact ⟨rfl, ⟨rfl, ⟨rfl, ⟨rfl, ⟨rfl, ⟨rfl, trivial⟩⟩⟩⟩⟩⟩) (s_Mo_whoHas_L13 (d) (by omega) n hx ?_)
  cases hf
  exact zEv_ret 2 (fun n => rfl)
def Mo_isFit_L36 : Nat → Int32 → Int32 → Int32 → zI → Option (Int32)
  | 0, _, _, _, _ => none
  | n + 1, v1, v2, v3, I =>
    if (I 73 10) ≤ v3 then
      some v2
    else
      if v2 = 0 then
        some v2
      else
        if zIn v3 8 then
          (Mo_whoHas n v1 (I 79 (Int32.toNatClampNeg v3)) I).bind fun x700 =>
          if zIn v3 8 then
            (
              if x700 = (I 80 (Int32.toNatClampNeg v3)) then
                some 1
              else
                some 0 : Option (Int32)).bind fun x702 =>
            if zIn v3 8 then
              (
                if (I 81 (Int32.toNatClampNeg v3)) = 1 then
                  some 1
                else
                  some 0 : Option (Int32)).bind fun x704 =>
              (
                if x702 = x704 then
                  some 1
                else
                  some 0 : Option (Int32)).bind fun x706 =>
              Mo_isFit_L36 n v1 x706 (v3 + 1) I
            else none
          else none
        else none
theorem s_Mo_isFit_L36 (d : Nat) (hd : 1 ≤ d) : ∀ (n : Nat) {v1 : Int32} {v2 : Int32} {v3 : Int32} {I : zI} {y2 : Int32} {v : Option Value} {h' : zH}, Mo_isFit_L36 n v1 v2 v3 I = some y2 → zEv none d 173 (102, [some (.ref 73), none, some (.int y2), none], []) (zHp I) v h' → zEv none d 173 (36, [some (.ref 73), some (.int v1), some (.int v2), some (.int v3)], []) (zHp I) v h' := by
  obtain ⟨d, rfl⟩ : ∃ e, d = e + 1 := ⟨d - 1, by omega⟩
  intro n
  induction n with
  | zero => intros; rename_i hf _; cases hf
  | succ n ih =>
    intro v1 v2 v3 I y2 v h' hf kk
    rw [Mo_isFit_L36] at hf
    refine zEv_if 4 (c := (I 73 10) ≤ v3) (f1 := (102, [some (.ref 73), some (.int v1), some (.int v2), some (.int v3)], [])) (f2 := (44, [some (.ref 73), some (.int v1), some (.int v2), some (.int v3)], [])) (h1 := zHp I) (fun n => rfl) (fun hc => ?_) (fun hc => ?_)
    · rw [if_pos hc] at hf
      obtain rfl := Option.some.inj hf
      exact zEv_weak (L := [some (.ref 73), none, some (.int v2), none]) (by exact ⟨rfl, ⟨rfl, ⟨rfl, ⟨rfl, trivial⟩⟩⟩⟩) kk
    · rw [if_neg hc] at hf
      refine zEv_if 2 (c := v2 = 0) (f1 := (102, [some (.ref 73), some (.int v1), some (.int v2), some (.int v3)], [])) (f2 := (48, [some (.ref 73), some (.int v1), some (.int v2), some (.int v3)], [])) (h1 := zHp I) (fun n => rfl) (fun hc => ?_) (fun hc => ?_)
      · rw [if_pos hc] at hf
        obtain rfl := Option.some.inj hf
        exact zEv_weak (L := [some (.ref 73), none, some (.int v2), none]) (by exact ⟨rfl, ⟨rfl, ⟨rfl, ⟨rfl, trivial⟩⟩⟩⟩) kk
      · rw [if_neg hc] at hf
        obtain ⟨hc, hf⟩ := zGd_inv hf
        refine zEv_gd 5 (c := zIn v3 8) (f1 := (55, [some (.ref 73), some (.int v1), some (.int v2), some (.int v3)], [.int (I 79 (Int32.toNatClampNeg v3)), .int v1])) (h1 := zHp I) (fun n => rfl) hc ?_
        obtain ⟨x700, hx, hf⟩ := Option.bind_eq_some_iff.mp hf
        refine zEv_call 1 (N := 172) (vs := [.int v1, .int (I 79 (Int32.toNatClampNeg v3))]) (v1 := some (.int x700)) (h1 := zHp I) (L := [some (.ref 73), some (.int v1), some (.int v2), some (.int v3)]) (rest := []) (pc := 58) (fun n => rfl) (s_Mo_whoHas hx d (by omega)) rfl rfl ?_
        show zEv _ _ _ (58, [some (.ref 73), some (.int v1), some (.int v2), some (.int v3)], [.int x700]) _ _ _
        obtain ⟨hc, hf⟩ := zGd_inv hf
        refine zEv_gd 4 (c := zIn v3 8) (f1 := (64, [some (.ref 73), some (.int v1), some (.int v2), some (.int v3)], [.int (I 80 (Int32.toNatClampNeg v3)), .int x700])) (h1 := zHp I) (fun n => rfl) hc ?_
        obtain ⟨x702, hm_m701, hf⟩ := Option.bind_eq_some_iff.mp hf
        have hJ_m701 : zEv none (d + 1) 173 (72, [some (.ref 73), some (.int v1), none, some (.int v3)], [.int x702]) (zHp I) v h' := by
          obtain ⟨hc, hf⟩ := zGd_inv hf
          refine zEv_gd 4 (c := zIn v3 8) (f1 := (78, [some (.ref 73), some (.int v1), none, some (.int v3)], [.int (I 81 (Int32.toNatClampNeg v3)), .int x702])) (h1 := zHp I) (fun n => rfl) hc ?_
          obtain ⟨x704, hm_m703, hf⟩ := Option.bind_eq_some_iff.mp hf
          have hJ_m703 : zEv none (d + 1) 173 (87, [some (.ref 73), some (.int v1), none, some (.int v3)], [.int x704, .int x702]) (zHp I) v h' := by
            obtain ⟨x706, hm_m705, hf⟩ := Option.bind_eq_some_iff.mp hf
            have hJ_m705 : zEv none (d + 1) 173 (95, [some (.ref 73), some (.int v1), none, some (.int v3)], [.int x706]) (zHp I) v h' := by
              refine zEv_go 3 (f1 := (36, [some (.ref 73), some (.int v1), some (.int x706), some (.int (v3 + 1))], [])) (h1 := zHp I) (fun n => rfl) ?_
              refine zEv_weak (L := [some (.ref 73), some (.int v1), some (.int x706), some (.int (v3 + 1))]) (by exact ⟨rfl, ⟨rfl, ⟨rfl, ⟨rfl, trivial⟩⟩⟩⟩) ?_
              exact ih hf kk
            clear hf
            refine zEv_if 1 (c := x702 = x704) (f1 := (90, [some (.ref 73), some (.int v1), none, some (.int v3)], [])) (f2 := (94, [some (.ref 73), some (.int v1), none, some (.int v3)], [])) (h1 := zHp I) (fun n => rfl) (fun hc => ?_) (fun hc => ?_)
            · rw [if_pos hc] at hm_m705
              obtain rfl := Option.some.inj hm_m705
              refine zEv_go 2 (f1 := (95, [some (.ref 73), some (.int v1), none, some (.int v3)], [.int 1])) (h1 := zHp I) (fun n => rfl) ?_
              exact zEv_weak (L := [some (.ref 73), some (.int v1), none, some (.int v3)]) (by exact ⟨rfl, ⟨rfl, ⟨rfl, ⟨rfl, trivial⟩⟩⟩⟩) hJ_m705
            · rw [if_neg hc] at hm_m705
              obtain rfl := Option.some.inj hm_m705
              refine zEv_go 1 (f1 := (95, [some (.ref 73), some (.int v1), none, some (.int v3)], [.int 0])) (h1 := zHp I) (fun n => rfl) ?_
              exact zEv_weak (L := [some (.ref 73), some (.int v1), none, some (.int v3)]) (by exact ⟨rfl, ⟨rfl, ⟨rfl, ⟨rfl, trivial⟩⟩⟩⟩) hJ_m705
          clear hf
          refine zEv_if 2 (c := (I 81 (Int32.toNatClampNeg v3)) = 1) (f1 := (82, [some (.ref 73), some (.int v1), none, some (.int v3)], [.int x702])) (f2 := (86, [some (.ref 73), some (.int v1), none, some (.int v3)], [.int x702])) (h1 := zHp I) (fun n => rfl) (fun hc => ?_) (fun hc => ?_)
          · rw [if_pos hc] at hm_m703
            obtain rfl := Option.some.inj hm_m703
            refine zEv_go 2 (f1 := (87, [some (.ref 73), some (.int v1), none, some (.int v3)], [.int 1, .int x702])) (h1 := zHp I) (fun n => rfl) ?_
            exact zEv_weak (L := [some (.ref 73), some (.int v1), none, some (.int v3)]) (by exact ⟨rfl, ⟨rfl, ⟨rfl, ⟨rfl, trivial⟩⟩⟩⟩) hJ_m703
          · rw [if_neg hc] at hm_m703
            obtain rfl := Option.some.inj hm_m703
            refine zEv_go 1 (f1 := (87, [some (.ref 73), some (.int v1), none, some (.int v3)], [.int 0, .int x702])) (h1 := zHp I) (fun n => rfl) ?_
            exact zEv_weak (L := [some (.ref 73), some (.int v1), none, some (.int v3)]) (by exact ⟨rfl, ⟨rfl, ⟨rfl, ⟨rfl, trivial⟩⟩⟩⟩) hJ_m703
        clear hf
        refine zEv_if 1 (c := x700 = (I 80 (Int32.toNatClampNeg v3))) (f1 := (67, [some (.ref 73), some (.int v1), some (.int v2), some (.int v3)], [])) (f2 := (71, [some (.ref 73), some (.int v1), some (.int v2), some (.int v3)], [])) (h1 := zHp I) (fun n => rfl) (fun hc => ?_) (fun hc => ?_)
        · rw [if_pos hc] at hm_m701
          obtain rfl := Option.some.inj hm_m701
          refine zEv_go 2 (f1 := (72, [some (.ref 73), some (.int v1), some (.int v2), some (.int v3)], [.int 1])) (h1 := zHp I) (fun n => rfl) ?_
          exact zEv_weak (L := [some (.ref 73), some (.int v1), none, some (.int v3)]) (by exact ⟨rfl, ⟨rfl, ⟨rfl, ⟨rfl, trivial⟩⟩⟩⟩) hJ_m701
        · rw [if_neg hc] at hm_m701
          obtain rfl := Option.some.inj hm_m701
          refine zEv_go 1 (f1 := (72, [some (.ref 73), some (.int v1), some (.int v2), some (.int v3)], [.int 0])) (h1 := zHp I) (fun n => rfl) ?_
          exact zEv_weak (L := [some (.ref 73), some (.int v1), none, some (.int v3)]) (by exact ⟨rfl, ⟨rfl, ⟨rfl, ⟨rfl, trivial⟩⟩⟩⟩) hJ_m701
def Mo_isFit (n : Nat) (a0 : Int32) (I : zI) : Option (Int32) :=
  (Mo_in (Int32.toInt64 (a0 / 10)) 2 8 I).bind fun x694 =>
  (
    if x694 = 0 then
      some 0
    else
      if (a0 / 10) ≤ (zRem a0 10) then
        some 0
      else
        some 1 : Option (Int32)).bind fun x696 =>
  (Mo_isFit_L36 n a0 x696 0 I).bind fun x707 =>
  if x707 = 0 ∨ x707 = 1 then some x707 else none
theorem s_Mo_isFit {n : Nat} {a0 : Int32} {I : zI} {r : Int32} (hf : Mo_isFit n a0 I = some r) (d : Nat) (hd : 1 ≤ d) : zCall d 173 [.ref 73, .int a0] (zHp I) (some (.int r)) (zHp I) := by
  obtain ⟨d, rfl⟩ : ∃ e, d = e + 1 := ⟨d - 1, by omega⟩
  rw [Mo_isFit] at hf
  show zEv _ _ _ (0, [some (.ref 73), some (.int a0), none, none], []) _ _ _
  obtain ⟨x694, hx, hf⟩ := Option.bind_eq_some_iff.mp hf
  refine zEv_call 7 (N := 117) (vs := [.long (Int32.toInt64 (a0 / 10)), .long 2, .long 8]) (v1 := some (.int x694)) (h1 := zHp I) (L := [some (.ref 73), some (.int a0), none, none]) (rest := []) (pc := 14) (fun n => rfl) (s_Mo_in hx d (by omega)) rfl rfl ?_
  show zEv _ _ _ (14, [some (.ref 73), some (.int a0), none, none], [.int x694]) _ _ _
  obtain ⟨x696, hm_m695, hf⟩ := Option.bind_eq_some_iff.mp hf
  have hJ_m695 : zEv none (d + 1) 173 (33, [some (.ref 73), some (.int a0), none, none], [.int x696]) (zHp I) (some (.int r)) (zHp I) := by
    obtain ⟨x707, hx, hf⟩ := Option.bind_eq_some_iff.mp hf
    refine zEv_go 3 (f1 := (36, [some (.ref 73), some (.int a0), some (.int x696), some (.int 0)], [])) (h1 := zHp I) (fun n => rfl) ?_
    refine zEv_weak (L := [some (.ref 73), some (.int a0), some (.int x696), some (.int 0)]) (by exact ⟨rfl, ⟨rfl, ⟨rfl, ⟨rfl, trivial⟩⟩⟩⟩) (s_Mo_isFit_L36 (d + 1) (by omega) n hx ?_)
    obtain ⟨hc, hf⟩ := zGd_inv hf
    cases hf
    exact zEv_rt hc 2 (fun n => rfl)
  clear hf
  refine zEv_if 1 (c := x694 = 0) (f1 := (32, [some (.ref 73), some (.int a0), none, none], [])) (f2 := (17, [some (.ref 73), some (.int a0), none, none], [])) (h1 := zHp I) (fun n => rfl) (fun hc => ?_) (fun hc => ?_)
  · rw [if_pos hc] at hm_m695
    obtain rfl := Option.some.inj hm_m695
    refine zEv_go 1 (f1 := (33, [some (.ref 73), some (.int a0), none, none], [.int 0])) (h1 := zHp I) (fun n => rfl) ?_
    exact zEv_weak (L := [some (.ref 73), some (.int a0), none, none]) (by exact ⟨rfl, ⟨rfl, ⟨rfl, ⟨rfl, trivial⟩⟩⟩⟩) hJ_m695
  · rw [if_neg hc] at hm_m695
    refine zEv_if 7 (c := (a0 / 10) ≤ (zRem a0 10)) (f1 := (32, [some (.ref 73), some (.int a0), none, none], [])) (f2 := (28, [some (.ref 73), some (.int a0), none, none], [])) (h1 := zHp I) (fun n => rfl) (fun hc => ?_) (fun hc => ?_)
    · rw [if_pos hc] at hm_m695
      obtain rfl := Option.some.inj hm_m695
      refine zEv_go 1 (f1 := (33, [some (.ref 73), some (.int a0), none, none], [.int 0])) (h1 := zHp I) (fun n => rfl) ?_
      exact zEv_weak (L := [some (.ref 73), some (.int a0), none, none]) (by exact ⟨rfl, ⟨rfl, ⟨rfl, ⟨rfl, trivial⟩⟩⟩⟩) hJ_m695
    · rw [if_neg hc] at hm_m695
      obtain rfl := Option.some.inj hm_m695
      refine zEv_go 2 (f1 := (33, [some (.ref 73), some (.int a0), none, none], [.int 1])) (h1 := zHp I) (fun n => rfl) ?_
      exact zEv_weak (L := [some (.ref 73), some (.int a0), none, none]) (by exact ⟨rfl, ⟨rfl, ⟨rfl, ⟨rfl, trivial⟩⟩⟩⟩) hJ_m695
def Mo_fits_L5 : Nat → Int32 → Int32 → Int32 → zI → Option (Int32)
  | 0, _, _, _, _ => none
  | n + 1, v1, v2, v3, I =>
    if 90 ≤ v3 then
      if v1 = (-1) then
        some v2
      else
        some (-6)
    else
      (Mo_isFit n v3 I).bind fun x708 =>
      if x708 = 0 then
        Mo_fits_L5 n v1 v2 (v3 + 1) I
      else
        if v2 = v1 then
          some v3
        else
          Mo_fits_L5 n v1 (v2 + 1) (v3 + 1) I
theorem s_Mo_fits_L5 (d : Nat) (hd : 2 ≤ d) : ∀ (n : Nat) {v1 : Int32} {v2 : Int32} {v3 : Int32} {I : zI} {r : Int32}, Mo_fits_L5 n v1 v2 v3 I = some r → zEv none d 174 (5, [some (.ref 73), some (.int v1), some (.int v2), some (.int v3)], []) (zHp I) (some (.int r)) (zHp I) := by
  obtain ⟨d, rfl⟩ : ∃ e, d = e + 1 := ⟨d - 1, by omega⟩
  intro n
  induction n with
  | zero => intros; rename_i hf; cases hf
  | succ n ih =>
    intro v1 v2 v3 I r hf
    rw [Mo_fits_L5] at hf
    refine zEv_if 3 (c := 90 ≤ v3) (f1 := (35, [some (.ref 73), some (.int v1), some (.int v2), some (.int v3)], [])) (f2 := (11, [some (.ref 73), some (.int v1), some (.int v2), some (.int v3)], [])) (h1 := zHp I) (fun n => rfl) (fun hc => ?_) (fun hc => ?_)
    · rw [if_pos hc] at hf
      refine zEv_if 3 (c := v1 = (-1)) (f1 := (40, [some (.ref 73), some (.int v1), some (.int v2), some (.int v3)], [])) (f2 := (44, [some (.ref 73), some (.int v1), some (.int v2), some (.int v3)], [])) (h1 := zHp I) (fun n => rfl) (fun hc => ?_) (fun hc => ?_)
      · rw [if_pos hc] at hf
        cases hf
        exact zEv_ret 3 (fun n => rfl)
      · rw [if_neg hc] at hf
        cases hf
        exact zEv_ret 2 (fun n => rfl)
    · rw [if_neg hc] at hf
      obtain ⟨x708, hx, hf⟩ := Option.bind_eq_some_iff.mp hf
      refine zEv_call 3 (N := 173) (vs := [.ref 73, .int v3]) (v1 := some (.int x708)) (h1 := zHp I) (L := [some (.ref 73), some (.int v1), some (.int v2), some (.int v3)]) (rest := []) (pc := 16) (fun n => rfl) (s_Mo_isFit hx d (by omega)) rfl rfl ?_
      show zEv _ _ _ (16, [some (.ref 73), some (.int v1), some (.int v2), some (.int v3)], [.int x708]) _ _ _
      refine zEv_if 1 (c := x708 = 0) (f1 := (29, [some (.ref 73), some (.int v1), some (.int v2), some (.int v3)], [])) (f2 := (19, [some (.ref 73), some (.int v1), some (.int v2), some (.int v3)], [])) (h1 := zHp I) (fun n => rfl) (fun hc => ?_) (fun hc => ?_)
      · rw [if_pos hc] at hf
        refine zEv_go 2 (f1 := (5, [some (.ref 73), some (.int v1), some (.int v2), some (.int (v3 + 1))], [])) (h1 := zHp I) (fun n => rfl) ?_
        refine zEv_weak (L := [some (.ref 73), some (.int v1), some (.int v2), some (.int (v3 + 1))]) (by exact ⟨rfl, ⟨rfl, ⟨rfl, ⟨rfl, trivial⟩⟩⟩⟩) ?_
        exact ih hf
      · rw [if_neg hc] at hf
        refine zEv_if 3 (c := v2 = v1) (f1 := (24, [some (.ref 73), some (.int v1), some (.int v2), some (.int v3)], [])) (f2 := (26, [some (.ref 73), some (.int v1), some (.int v2), some (.int v3)], [])) (h1 := zHp I) (fun n => rfl) (fun hc => ?_) (fun hc => ?_)
        · rw [if_pos hc] at hf
          cases hf
          exact zEv_ret 2 (fun n => rfl)
        · rw [if_neg hc] at hf
          refine zEv_go 3 (f1 := (5, [some (.ref 73), some (.int v1), some (.int (v2 + 1)), some (.int (v3 + 1))], [])) (h1 := zHp I) (fun n => rfl) ?_
          refine zEv_weak (L := [some (.ref 73), some (.int v1), some (.int (v2 + 1)), some (.int (v3 + 1))]) (by exact ⟨rfl, ⟨rfl, ⟨rfl, ⟨rfl, trivial⟩⟩⟩⟩) ?_
          exact ih hf
def Mo_fits (n : Nat) (a0 : Int32) (I : zI) : Option (Int32) :=
  Mo_fits_L5 n a0 0 20 I
theorem s_Mo_fits {n : Nat} {a0 : Int32} {I : zI} {r : Int32} (hf : Mo_fits n a0 I = some r) (d : Nat) (hd : 2 ≤ d) : zCall d 174 [.ref 73, .int a0] (zHp I) (some (.int r)) (zHp I) := by
  obtain ⟨d, rfl⟩ : ∃ e, d = e + 1 := ⟨d - 1, by omega⟩
  rw [Mo_fits] at hf
  show zEv _ _ _ (0, [some (.ref 73), some (.int a0), none, none], []) _ _ _
  refine zEv_go 4 (f1 := (5, [some (.ref 73), some (.int a0), some (.int 0), some (.int 20)], [])) (h1 := zHp I) (fun n => rfl) ?_
  exact zEv_weak (L := [some (.ref 73), some (.int a0), some (.int 0), some (.int 20)]) (by exact ⟨rfl, ⟨rfl, ⟨rfl, ⟨rfl, trivial⟩⟩⟩⟩) (s_Mo_fits_L5 (d + 1) (by omega) n hf)
def Mo_countBy_L24 : Nat → Int32 → Int32 → zI → Option (zI)
  | 0, _, _, _ => none
  | n + 1, v1, v2, I =>
    if 90 ≤ v2 then
      some I
    else
      (Mo_isFit n v2 I).bind fun x712 =>
      (
        if x712 = 0 then
          some (-6)
        else
          (Mo_whoHas n v2 v1 I).bind fun x714 =>
          some x714 : Option (Int32)).bind fun x715 =>
      (
        if x715 < 0 then
          some I
        else
          if zIn x715 8 then
            if zIn x715 8 then
              some (zUp I 91 (Int32.toNatClampNeg x715) ((I 91 (Int32.toNatClampNeg x715)) + 1))
            else none
          else none : Option (zI)).bind fun I717 =>
      Mo_countBy_L24 n v1 (v2 + 1) I717
theorem s_Mo_countBy_L24 (d : Nat) (hd : 2 ≤ d) : ∀ (n : Nat) {v1 : Int32} {v2 : Int32} {I : zI}  {I' : zI} {v : Option Value} {h' : zH}, Mo_countBy_L24 n v1 v2 I = some I' → zEv none d 175 (69, [some (.ref 73), none, none, none], []) (zHp I') v h' → zEv none d 175 (24, [some (.ref 73), some (.int v1), some (.int v2), none], []) (zHp I) v h' := by
  obtain ⟨d, rfl⟩ : ∃ e, d = e + 1 := ⟨d - 1, by omega⟩
  intro n
  induction n with
  | zero => intros; rename_i hf _; cases hf
  | succ n ih =>
    intro v1 v2 I I' v h' hf kk
    rw [Mo_countBy_L24] at hf
    refine zEv_if 3 (c := 90 ≤ v2) (f1 := (69, [some (.ref 73), some (.int v1), some (.int v2), none], [])) (f2 := (30, [some (.ref 73), some (.int v1), some (.int v2), none], [])) (h1 := zHp I) (fun n => rfl) (fun hc => ?_) (fun hc => ?_)
    · rw [if_pos hc] at hf
      obtain rfl := Option.some.inj hf
      exact zEv_weak (L := [some (.ref 73), none, none, none]) (by exact ⟨rfl, ⟨rfl, ⟨rfl, ⟨rfl, trivial⟩⟩⟩⟩) kk
    · rw [if_neg hc] at hf
      obtain ⟨x712, hx, hf⟩ := Option.bind_eq_some_iff.mp hf
      refine zEv_call 3 (N := 173) (vs := [.ref 73, .int v2]) (v1 := some (.int x712)) (h1 := zHp I) (L := [some (.ref 73), some (.int v1), some (.int v2), none]) (rest := []) (pc := 35) (fun n => rfl) (s_Mo_isFit hx d (by omega)) rfl rfl ?_
      show zEv _ _ _ (35, [some (.ref 73), some (.int v1), some (.int v2), none], [.int x712]) _ _ _
      obtain ⟨x715, hm_m713, hf⟩ := Option.bind_eq_some_iff.mp hf
      have hJ_m713 : zEv none (d + 1) 175 (48, [some (.ref 73), some (.int v1), some (.int v2), none], [.int x715]) (zHp I) v h' := by
        obtain ⟨I717, hm_m716, hf⟩ := Option.bind_eq_some_iff.mp hf
        have hJ_m716 : zEv none (d + 1) 175 (63, [some (.ref 73), some (.int v1), some (.int v2), none], []) (zHp I717) v h' := by
          refine zEv_go 2 (f1 := (24, [some (.ref 73), some (.int v1), some (.int (v2 + 1)), none], [])) (h1 := zHp I717) (fun n => rfl) ?_
          refine zEv_weak (L := [some (.ref 73), some (.int v1), some (.int (v2 + 1)), none]) (by exact ⟨rfl, ⟨rfl, ⟨rfl, ⟨rfl, trivial⟩⟩⟩⟩) ?_
          exact ih hf kk
        clear hf
        refine zEv_if 3 (c := x715 < 0) (f1 := (63, [some (.ref 73), some (.int v1), some (.int v2), some (.int x715)], [])) (f2 := (53, [some (.ref 73), some (.int v1), some (.int v2), some (.int x715)], [])) (h1 := zHp I) (fun n => rfl) (fun hc => ?_) (fun hc => ?_)
        · rw [if_pos hc] at hm_m716
          obtain rfl := Option.some.inj hm_m716
          exact zEv_weak (L := [some (.ref 73), some (.int v1), some (.int v2), none]) (by exact ⟨rfl, ⟨rfl, ⟨rfl, ⟨rfl, trivial⟩⟩⟩⟩) hJ_m716
        · rw [if_neg hc] at hm_m716
          obtain ⟨hc, hm_m716⟩ := zGd_inv hm_m716
          refine zEv_gd 5 (c := zIn x715 8) (f1 := (60, [some (.ref 73), some (.int v1), some (.int v2), some (.int x715)], [.int (I 91 (Int32.toNatClampNeg x715)), .int x715, .ref 91])) (h1 := zHp I) (fun n => rfl) hc ?_
          obtain ⟨hc, hm_m716⟩ := zGd_inv hm_m716
          refine zEv_gd 3 (c := zIn x715 8) (f1 := (63, [some (.ref 73), some (.int v1), some (.int v2), some (.int x715)], [])) (h1 := zHp (zUp I 91 (Int32.toNatClampNeg x715) ((I 91 (Int32.toNatClampNeg x715)) + 1))) (fun n => rfl) hc ?_
          obtain rfl := Option.some.inj hm_m716
          exact zEv_weak (L := [some (.ref 73), some (.int v1), some (.int v2), none]) (by exact ⟨rfl, ⟨rfl, ⟨rfl, ⟨rfl, trivial⟩⟩⟩⟩) hJ_m716
      clear hf
      refine zEv_if 1 (c := x712 = 0) (f1 := (46, [some (.ref 73), some (.int v1), some (.int v2), none], [])) (f2 := (38, [some (.ref 73), some (.int v1), some (.int v2), none], [])) (h1 := zHp I) (fun n => rfl) (fun hc => ?_) (fun hc => ?_)
      · rw [if_pos hc] at hm_m713
        obtain rfl := Option.some.inj hm_m713
        refine zEv_go 1 (f1 := (48, [some (.ref 73), some (.int v1), some (.int v2), none], [.int (-6)])) (h1 := zHp I) (fun n => rfl) ?_
        exact zEv_weak (L := [some (.ref 73), some (.int v1), some (.int v2), none]) (by exact ⟨rfl, ⟨rfl, ⟨rfl, ⟨rfl, trivial⟩⟩⟩⟩) hJ_m713
      · rw [if_neg hc] at hm_m713
        obtain ⟨x714, hx, hm_m713⟩ := Option.bind_eq_some_iff.mp hm_m713
        refine zEv_call 3 (N := 172) (vs := [.int v2, .int v1]) (v1 := some (.int x714)) (h1 := zHp I) (L := [some (.ref 73), some (.int v1), some (.int v2), none]) (rest := []) (pc := 43) (fun n => rfl) (s_Mo_whoHas hx d (by omega)) rfl rfl ?_
        show zEv _ _ _ (43, [some (.ref 73), some (.int v1), some (.int v2), none], [.int x714]) _ _ _
        obtain rfl := Option.some.inj hm_m713
        refine zEv_go 1 (f1 := (48, [some (.ref 73), some (.int v1), some (.int v2), none], [.int x714])) (h1 := zHp I) (fun n => rfl) ?_
        exact zEv_weak (L := [some (.ref 73), some (.int v1), some (.int v2), none]) (by exact ⟨rfl, ⟨rfl, ⟨rfl, ⟨rfl, trivial⟩⟩⟩⟩) hJ_m713
def Mo_countBy_L2 : Nat → Int32 → Int32 → zI → Option (zI)
  | 0, _, _, _ => none
  | n + 1, v1, v2, I =>
    if 8 ≤ v2 then
      some I
    else
      if zIn v2 8 then
        Mo_countBy_L2 n v1 (v2 + 1) (zUp I 91 (Int32.toNatClampNeg v2) 0)
      else none
theorem s_Mo_countBy_L2 (d : Nat) (hd : 2 ≤ d) : ∀ (n : Nat) {v1 : Int32} {v2 : Int32} {I : zI}  {I' : zI} {v : Option Value} {h' : zH}, Mo_countBy_L2 n v1 v2 I = some I' → zEv none d 175 (21, [some (.ref 73), some (.int v1), none, none], []) (zHp I') v h' → zEv none d 175 (2, [some (.ref 73), some (.int v1), some (.int v2), none], []) (zHp I) v h' := by
  obtain ⟨d, rfl⟩ : ∃ e, d = e + 1 := ⟨d - 1, by omega⟩
  intro n
  induction n with
  | zero => intros; rename_i hf _; cases hf
  | succ n ih =>
    intro v1 v2 I I' v h' hf kk
    rw [Mo_countBy_L2] at hf
    refine zEv_if 3 (c := 8 ≤ v2) (f1 := (21, [some (.ref 73), some (.int v1), some (.int v2), none], [])) (f2 := (8, [some (.ref 73), some (.int v1), some (.int v2), none], [])) (h1 := zHp I) (fun n => rfl) (fun hc => ?_) (fun hc => ?_)
    · rw [if_pos hc] at hf
      obtain rfl := Option.some.inj hf
      exact zEv_weak (L := [some (.ref 73), some (.int v1), none, none]) (by exact ⟨rfl, ⟨rfl, ⟨rfl, ⟨rfl, trivial⟩⟩⟩⟩) kk
    · rw [if_neg hc] at hf
      obtain ⟨hc, hf⟩ := zGd_inv hf
      refine zEv_gd 5 (c := zIn v2 8) (f1 := (15, [some (.ref 73), some (.int v1), some (.int v2), none], [])) (h1 := zHp (zUp I 91 (Int32.toNatClampNeg v2) 0)) (fun n => rfl) hc ?_
      refine zEv_go 2 (f1 := (2, [some (.ref 73), some (.int v1), some (.int (v2 + 1)), none], [])) (h1 := zHp (zUp I 91 (Int32.toNatClampNeg v2) 0)) (fun n => rfl) ?_
      refine zEv_weak (L := [some (.ref 73), some (.int v1), some (.int (v2 + 1)), none]) (by exact ⟨rfl, ⟨rfl, ⟨rfl, ⟨rfl, trivial⟩⟩⟩⟩) ?_
      exact ih hf kk
def Mo_countBy (n : Nat) (a0 : Int32) (I : zI) : Option (zI) :=
  (Mo_countBy_L2 n a0 0 I).bind fun I711 =>
  (Mo_countBy_L24 n a0 20 I711).bind fun I718 =>
  some I718
theorem s_Mo_countBy {n : Nat} {a0 : Int32} {I : zI} {I' : zI} (hf : Mo_countBy n a0 I = some I') (d : Nat) (hd : 2 ≤ d) : zCall d 175 [.ref 73, .int a0] (zHp I) (none) (zHp I') := by
  obtain ⟨d, rfl⟩ : ∃ e, d = e + 1 := ⟨d - 1, by omega⟩
  rw [Mo_countBy] at hf
  show zEv _ _ _ (0, [some (.ref 73), some (.int a0), none, none], []) _ _ _
  obtain ⟨I711, hx, hf⟩ := Option.bind_eq_some_iff.mp hf
  refine zEv_go 2 (f1 := (2, [some (.ref 73), some (.int a0), some (.int 0), none], [])) (h1 := zHp I) (fun n => rfl) ?_
  refine zEv_weak (L := [some (.ref 73), some (.int a0), some (.int 0), none]) (by exact ⟨rfl, ⟨rfl, ⟨rfl, ⟨rfl, trivial⟩⟩⟩⟩) (s_Mo_countBy_L2 (d + 1) (by omega) n hx ?_)
  obtain ⟨I718, hx, hf⟩ := Option.bind_eq_some_iff.mp hf
  refine zEv_go 2 (f1 := (24, [some (.ref 73), some (.int a0), some (.int 20), none], [])) (h1 := zHp I711) (fun n => rfl) ?_
  refine zEv_weak (L := [some (.ref 73), some (.int a0), some (.int 20), none]) (by exact ⟨rfl, ⟨rfl, ⟨rfl, ⟨rfl, trivial⟩⟩⟩⟩) (s_Mo_countBy_L24 (d + 1) (by omega) n hx ?_)
  cases hf
  exact zEv_ret 1 (fun n => rfl)
