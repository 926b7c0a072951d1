set_option maxRecDepth 100000
def Mo_ofOnes  (a0 : Int32) (I : zI) : Option (Int32) :=
  (Mo_isOne (zRem a0 10) I).bind fun x833 =>
  if x833 = 0 then
    some (-2)
  else
    if 50 ≤ a0 then
      if zIn (zRem a0 10) 8 then
        some (I 76 (Int32.toNatClampNeg (zRem a0 10)))
      else none
    else
      if zIn (zRem a0 10) 8 then
        some (I 75 (Int32.toNatClampNeg (zRem a0 10)))
      else none
theorem s_Mo_ofOnes  {a0 : Int32} {I : zI} {r : Int32} (hf : Mo_ofOnes a0 I = some r) (d : Nat) (hd : 2 ≤ d) : zCall d 192 [.ref 73, .int a0] (zHp I) (some (.int r)) (zHp I) := by
  obtain ⟨d, rfl⟩ : ∃ e, d = e + 1 := ⟨d - 1, by omega⟩
  rw [Mo_ofOnes] at hf
  show zEv _ _ _ (0, [some (.ref 73), some (.int a0), none], []) _ _ _
  obtain ⟨x833, hx, hf⟩ := Option.bind_eq_some_iff.mp hf
  refine zEv_call 6 (N := 119) (vs := [.int (zRem a0 10)]) (v1 := some (.int x833)) (h1 := zHp I) (L := [some (.ref 73), some (.int a0), some (.int (zRem a0 10))]) (rest := []) (pc := 9) (fun n => rfl) (s_Mo_isOne hx d (by omega)) rfl rfl ?_
  show zEv _ _ _ (9, [some (.ref 73), some (.int a0), some (.int (zRem a0 10))], [.int x833]) _ _ _
  refine zEv_if 1 (c := x833 = 0) (f1 := (12, [some (.ref 73), some (.int a0), some (.int (zRem a0 10))], [])) (f2 := (17, [some (.ref 73), some (.int a0), some (.int (zRem a0 10))], [])) (h1 := zHp I) (fun n => rfl) (fun hc => ?_) (fun hc => ?_)
  · rw [if_pos hc] at hf
    cases hf
    exact zEv_ret 3 (fun n => rfl)
  · rw [if_neg hc] at hf
    refine zEv_if 3 (c := 50 ≤ a0) (f1 := (32, [some (.ref 73), some (.int a0), some (.int (zRem a0 10))], [])) (f2 := (23, [some (.ref 73), some (.int a0), some (.int (zRem a0 10))], [])) (h1 := zHp I) (fun n => rfl) (fun hc => ?_) (fun hc => ?_)
    · rw [if_pos hc] at hf
      obtain ⟨hc, hf⟩ := zGd_inv hf
      refine zEv_gd 4 (c := zIn (zRem a0 10) 8) (f1 := (38, [some (.ref 73), some (.int a0), some (.int (zRem a0 10))], [.int (I 76 (Int32.toNatClampNeg (zRem a0 10)))])) (h1 := zHp I) (fun n => rfl) hc ?_
      cases hf
      exact zEv_ret 1 (fun n => rfl)
    · rw [if_neg hc] at hf
      obtain ⟨hc, hf⟩ := zGd_inv hf
      refine zEv_gd 4 (c := zIn (zRem a0 10) 8) (f1 := (29, [some (.ref 73), some (.int a0), some (.int (zRem a0 10))], [.int (I 75 (Int32.toNatClampNeg (zRem a0 10)))])) (h1 := zHp I) (fun n => rfl) hc ?_
      cases hf
      exact zEv_ret 2 (fun n => rfl)
def Mo_ofBenches  (a0 : Int32) (I : zI) : Option (Int32) :=
  if 20 ≤ a0 then
    if 30 ≤ a0 then
      if zIn (zRem a0 10) 10 then
        some (I 78 (Int32.toNatClampNeg (zRem a0 10)))
      else none
    else
      if zIn (zRem a0 10) 10 then
        some (I 77 (Int32.toNatClampNeg (zRem a0 10)))
      else none
  else
    if zIn (zRem a0 10) 10 then
      some (I 74 (Int32.toNatClampNeg (zRem a0 10)))
    else none
theorem s_Mo_ofBenches  {a0 : Int32} {I : zI} {r : Int32} (hf : Mo_ofBenches a0 I = some r) (d : Nat) (hd : 0 ≤ d) : zCall d 191 [.ref 73, .int a0] (zHp I) (some (.int r)) (zHp I) := by
  rw [Mo_ofBenches] at hf
  show zEv _ _ _ (0, [some (.ref 73), some (.int a0), none], []) _ _ _
  refine zEv_if 7 (c := 20 ≤ a0) (f1 := (20, [some (.ref 73), some (.int a0), some (.int (zRem a0 10))], [])) (f2 := (11, [some (.ref 73), some (.int a0), some (.int (zRem a0 10))], [])) (h1 := zHp I) (fun n => rfl) (fun hc => ?_) (fun hc => ?_)
  · rw [if_pos hc] at hf
    refine zEv_if 3 (c := 30 ≤ a0) (f1 := (35, [some (.ref 73), some (.int a0), some (.int (zRem a0 10))], [])) (f2 := (26, [some (.ref 73), some (.int a0), some (.int (zRem a0 10))], [])) (h1 := zHp I) (fun n => rfl) (fun hc => ?_) (fun hc => ?_)
    · rw [if_pos hc] at hf
      obtain ⟨hc, hf⟩ := zGd_inv hf
      refine zEv_gd 4 (c := zIn (zRem a0 10) 10) (f1 := (41, [some (.ref 73), some (.int a0), some (.int (zRem a0 10))], [.int (I 78 (Int32.toNatClampNeg (zRem a0 10)))])) (h1 := zHp I) (fun n => rfl) hc ?_
      cases hf
      exact zEv_ret 1 (fun n => rfl)
    · rw [if_neg hc] at hf
      obtain ⟨hc, hf⟩ := zGd_inv hf
      refine zEv_gd 4 (c := zIn (zRem a0 10) 10) (f1 := (32, [some (.ref 73), some (.int a0), some (.int (zRem a0 10))], [.int (I 77 (Int32.toNatClampNeg (zRem a0 10)))])) (h1 := zHp I) (fun n => rfl) hc ?_
      cases hf
      exact zEv_ret 2 (fun n => rfl)
  · rw [if_neg hc] at hf
    obtain ⟨hc, hf⟩ := zGd_inv hf
    refine zEv_gd 4 (c := zIn (zRem a0 10) 10) (f1 := (17, [some (.ref 73), some (.int a0), some (.int (zRem a0 10))], [.int (I 74 (Int32.toNatClampNeg (zRem a0 10)))])) (h1 := zHp I) (fun n => rfl) hc ?_
    cases hf
    exact zEv_ret 2 (fun n => rfl)
def Mo_told (n : Nat) (a0 : Int32) (I : zI) : Option (Int32) :=
  (Mo_in (Int32.toInt64 a0) 100 111 I).bind fun x829 =>
  if x829 = 0 then
    (Mo_in (Int32.toInt64 a0) 10 39 I).bind fun x830 =>
    if x830 = 0 then
      (Mo_in (Int32.toInt64 a0) 40 59 I).bind fun x831 =>
      if x831 = 0 then
        (Mo_ofAll a0 I).bind fun x832 =>
        some x832
      else
        (Mo_ofOnes a0 I).bind fun x834 =>
        some x834
    else
      (Mo_ofBenches a0 I).bind fun x835 =>
      some x835
  else
    (Mo_whereIs n (a0 - 100) I).bind fun x836 =>
    some x836
theorem s_Mo_told {n : Nat} {a0 : Int32} {I : zI} {r : Int32} (hf : Mo_told n a0 I = some r) (d : Nat) (hd : 3 ≤ d) : zCall d 194 [.ref 73, .int a0] (zHp I) (some (.int r)) (zHp I) := by
  obtain ⟨d, rfl⟩ : ∃ e, d = e + 1 := ⟨d - 1, by omega⟩
  rw [Mo_told] at hf
  show zEv _ _ _ (0, [some (.ref 73), some (.int a0)], []) _ _ _
  obtain ⟨x829, hx, hf⟩ := Option.bind_eq_some_iff.mp hf
  refine zEv_call 5 (N := 117) (vs := [.long (Int32.toInt64 a0), .long 100, .long 111]) (v1 := some (.int x829)) (h1 := zHp I) (L := [some (.ref 73), some (.int a0)]) (rest := []) (pc := 11) (fun n => rfl) (s_Mo_in hx d (by omega)) rfl rfl ?_
  show zEv _ _ _ (11, [some (.ref 73), some (.int a0)], [.int x829]) _ _ _
  refine zEv_if 1 (c := x829 = 0) (f1 := (23, [some (.ref 73), some (.int a0)], [])) (f2 := (14, [some (.ref 73), some (.int a0)], [])) (h1 := zHp I) (fun n => rfl) (fun hc => ?_) (fun hc => ?_)
  · rw [if_pos hc] at hf
    obtain ⟨x830, hx, hf⟩ := Option.bind_eq_some_iff.mp hf
    refine zEv_call 5 (N := 117) (vs := [.long (Int32.toInt64 a0), .long 10, .long 39]) (v1 := some (.int x830)) (h1 := zHp I) (L := [some (.ref 73), some (.int a0)]) (rest := []) (pc := 34) (fun n => rfl) (s_Mo_in hx d (by omega)) rfl rfl ?_
    show zEv _ _ _ (34, [some (.ref 73), some (.int a0)], [.int x830]) _ _ _
    refine zEv_if 1 (c := x830 = 0) (f1 := (43, [some (.ref 73), some (.int a0)], [])) (f2 := (37, [some (.ref 73), some (.int a0)], [])) (h1 := zHp I) (fun n => rfl) (fun hc => ?_) (fun hc => ?_)
    · rw [if_pos hc] at hf
      obtain ⟨x831, hx, hf⟩ := Option.bind_eq_some_iff.mp hf
      refine zEv_call 5 (N := 117) (vs := [.long (Int32.toInt64 a0), .long 40, .long 59]) (v1 := some (.int x831)) (h1 := zHp I) (L := [some (.ref 73), some (.int a0)]) (rest := []) (pc := 54) (fun n => rfl) (s_Mo_in hx d (by omega)) rfl rfl ?_
      show zEv _ _ _ (54, [some (.ref 73), some (.int a0)], [.int x831]) _ _ _
      refine zEv_if 1 (c := x831 = 0) (f1 := (65, [some (.ref 73), some (.int a0)], [])) (f2 := (57, [some (.ref 73), some (.int a0)], [])) (h1 := zHp I) (fun n => rfl) (fun hc => ?_) (fun hc => ?_)
      · rw [if_pos hc] at hf
        obtain ⟨x832, hx, hf⟩ := Option.bind_eq_some_iff.mp hf
        refine zEv_call 3 (N := 193) (vs := [.ref 73, .int a0]) (v1 := some (.int x832)) (h1 := zHp I) (L := [some (.ref 73), some (.int a0)]) (rest := []) (pc := 70) (fun n => rfl) (s_Mo_ofAll hx d (by omega)) rfl rfl ?_
        show zEv _ _ _ (70, [some (.ref 73), some (.int a0)], [.int x832]) _ _ _
        cases hf
        exact zEv_ret 1 (fun n => rfl)
      · rw [if_neg hc] at hf
        obtain ⟨x834, hx, hf⟩ := Option.bind_eq_some_iff.mp hf
        refine zEv_call 3 (N := 192) (vs := [.ref 73, .int a0]) (v1 := some (.int x834)) (h1 := zHp I) (L := [some (.ref 73), some (.int a0)]) (rest := []) (pc := 62) (fun n => rfl) (s_Mo_ofOnes hx d (by omega)) rfl rfl ?_
        show zEv _ _ _ (62, [some (.ref 73), some (.int a0)], [.int x834]) _ _ _
        cases hf
        exact zEv_ret 2 (fun n => rfl)
    · rw [if_neg hc] at hf
      obtain ⟨x835, hx, hf⟩ := Option.bind_eq_some_iff.mp hf
      refine zEv_call 3 (N := 191) (vs := [.ref 73, .int a0]) (v1 := some (.int x835)) (h1 := zHp I) (L := [some (.ref 73), some (.int a0)]) (rest := []) (pc := 42) (fun n => rfl) (s_Mo_ofBenches hx d (by omega)) rfl rfl ?_
      show zEv _ _ _ (42, [some (.ref 73), some (.int a0)], [.int x835]) _ _ _
      cases hf
      exact zEv_ret 1 (fun n => rfl)
  · rw [if_neg hc] at hf
    obtain ⟨x836, hx, hf⟩ := Option.bind_eq_some_iff.mp hf
    refine zEv_call 5 (N := 126) (vs := [.ref 73, .int (a0 - 100)]) (v1 := some (.int x836)) (h1 := zHp I) (L := [some (.ref 73), some (.int a0)]) (rest := []) (pc := 22) (fun n => rfl) (s_Mo_whereIs hx d (by omega)) rfl rfl ?_
    show zEv _ _ _ (22, [some (.ref 73), some (.int a0)], [.int x836]) _ _ _
    cases hf
    exact zEv_ret 1 (fun n => rfl)
