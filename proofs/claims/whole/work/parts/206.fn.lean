def Rw_at_66  (a0 : Int32) (I : zI) : Option (Int32) :=
  if a0 < 0 then
    some (-6)
  else
    if 35 ≤ a0 then
      some (-6)
    else
      if zIn a0 35 then
        some (I 67 (Int32.toNatClampNeg a0))
      else none
theorem s_Rw_at_66  {a0 : Int32} {I : zI} {r : Int32} (hf : Rw_at_66 a0 I = some r) (d : Nat) (hd : 0 ≤ d) : zCall d 60 [.ref 66, .int a0] (zHp I) (some (.int r)) (zHp I) := by
  rw [Rw_at_66] at hf
  show zEv _ _ _ (0, [some (.ref 66), some (.int a0)], []) _ _ _
  refine zEv_if 2 (c := a0 < 0) (f1 := (22, [some (.ref 66), some (.int a0)], [])) (f2 := (4, [some (.ref 66), some (.int a0)], [])) (h1 := zHp I) (fun n => rfl) (fun hc => ?_) (fun hc => ?_)
  · rw [if_pos hc] at hf
    cases hf
    exact zEv_ret 2 (fun n => rfl)
  · rw [if_neg hc] at hf
    refine zEv_if 5 (c := 35 ≤ a0) (f1 := (22, [some (.ref 66), some (.int a0)], [])) (f2 := (13, [some (.ref 66), some (.int a0)], [])) (h1 := zHp I) (fun n => rfl) (fun hc => ?_) (fun hc => ?_)
    · rw [if_pos hc] at hf
      cases hf
      exact zEv_ret 2 (fun n => rfl)
    · rw [if_neg hc] at hf
      obtain ⟨hc, hf⟩ := zGd_inv hf
      refine zEv_gd 4 (c := zIn a0 35) (f1 := (19, [some (.ref 66), some (.int a0)], [.int (I 67 (Int32.toNatClampNeg a0))])) (h1 := zHp I) (fun n => rfl) hc ?_
      cases hf
      exact zEv_ret 2 (fun n => rfl)
def BM_fits (n : Nat) (a0 : Int32) (I : zI) : Option (Int32 × zI) :=
  (Su_sift_2 n I).bind fun I348 =>
  if a0 = (-1) then
    some ((I348 65 2), I348)
  else
    (BM_isWithin a0 0 ((I348 65 2) - 1) I348).bind fun x349 =>
    if x349 = 0 then
      some ((-6), I348)
    else
      (Rw_at_66 a0 I348).bind fun x350 =>
      some (x350, I348)
theorem s_BM_fits {n : Nat} {a0 : Int32} {I : zI} {r : Int32} {I' : zI} (hf : BM_fits n a0 I = some (r, I')) (d : Nat) (hd : 3 ≤ d) : zCall d 100 [.ref 1, .int a0] (zHp I) (some (.int r)) (zHp I') := by
  obtain ⟨d, rfl⟩ : ∃ e, d = e + 1 := ⟨d - 1, by omega⟩
  rw [BM_fits] at hf
  show zEv _ _ _ (0, [some (.ref 1), some (.int a0)], []) _ _ _
  obtain ⟨I348, hx, hf⟩ := Option.bind_eq_some_iff.mp hf
  refine zEv_call 5 (N := 65) (vs := [.ref 65, .ref 2]) (v1 := none) (h1 := zHp I348) (L := [some (.ref 1), some (.int a0)]) (rest := []) (pc := 11) (fun n => rfl) (s_Su_sift_2 hx d (by omega)) rfl rfl ?_
  show zEv _ _ _ (11, [some (.ref 1), some (.int a0)], []) _ _ _
  refine zEv_if 3 (c := a0 = (-1)) (f1 := (16, [some (.ref 1), some (.int a0)], [])) (f2 := (24, [some (.ref 1), some (.int a0)], [])) (h1 := zHp I348) (fun n => rfl) (fun hc => ?_) (fun hc => ?_)
  · rw [if_pos hc] at hf
    cases hf
    exact zEv_ret 4 (fun n => rfl)
  · rw [if_neg hc] at hf
    obtain ⟨x349, hx, hf⟩ := Option.bind_eq_some_iff.mp hf
    refine zEv_call 8 (N := 109) (vs := [.int a0, .int 0, .int ((I348 65 2) - 1)]) (v1 := some (.int x349)) (h1 := zHp I348) (L := [some (.ref 1), some (.int a0)]) (rest := []) (pc := 38) (fun n => rfl) (s_BM_isWithin hx d (by omega)) rfl rfl ?_
    show zEv _ _ _ (38, [some (.ref 1), some (.int a0)], [.int x349]) _ _ _
    refine zEv_if 1 (c := x349 = 0) (f1 := (55, [some (.ref 1), some (.int a0)], [])) (f2 := (41, [some (.ref 1), some (.int a0)], [])) (h1 := zHp I348) (fun n => rfl) (fun hc => ?_) (fun hc => ?_)
    · rw [if_pos hc] at hf
      cases hf
      exact zEv_ret 2 (fun n => rfl)
    · rw [if_neg hc] at hf
      obtain ⟨x350, hx, hf⟩ := Option.bind_eq_some_iff.mp hf
      refine zEv_call 5 (N := 60) (vs := [.ref 66, .int a0]) (v1 := some (.int x350)) (h1 := zHp I348) (L := [some (.ref 1), some (.int a0)]) (rest := []) (pc := 52) (fun n => rfl) (s_Rw_at_66 hx d (by omega)) rfl rfl ?_
      show zEv _ _ _ (52, [some (.ref 1), some (.int a0)], [.int x350]) _ _ _
      cases hf
      exact zEv_ret 2 (fun n => rfl)
def Ar_fill_69_L5 : Nat → Int32 → Int32 → Int32 → zI → Option (zI)
  | 0, _, _, _, _ => none
  | n + 1, v1, v2, v3, I =>
    if v3 ≤ v2 then
      some I
    else
      if zIn v2 8 then
        Ar_fill_69_L5 n v1 (v2 + 1) v3 (zUp I 69 (Int32.toNatClampNeg v2) v1)
      else none
theorem s_Ar_fill_69_L5 (d : Nat) (hd : 0 ≤ d) : ∀ (n : Nat) {v1 : Int32} {v2 : Int32} {v3 : Int32} {I : zI}  {I' : zI} {v : Option Value} {h' : zH}, Ar_fill_69_L5 n v1 v2 v3 I = some I' → zEv none d 198 (20, [some (.ref 69), none, none, none], []) (zHp I') v h' → zEv none d 198 (5, [some (.ref 69), some (.int v1), some (.int v2), some (.int v3)], []) (zHp I) v h' := by
  intro n
  induction n with
  | zero => intros; rename_i hf _; cases hf
  | succ n ih =>
    intro v1 v2 v3 I I' v h' hf kk
    rw [Ar_fill_69_L5] at hf
    refine zEv_if 3 (c := v3 ≤ v2) (f1 := (20, [some (.ref 69), some (.int v1), some (.int v2), some (.int v3)], [])) (f2 := (10, [some (.ref 69), some (.int v1), some (.int v2), some (.int v3)], [])) (h1 := zHp I) (fun n => rfl) (fun hc => ?_) (fun hc => ?_)
    · rw [if_pos hc] at hf
      obtain rfl := Option.some.inj hf
      exact zEv_weak (L := [some (.ref 69), none, none, none]) (by exact ⟨rfl, ⟨rfl, ⟨rfl, ⟨rfl, trivial⟩⟩⟩⟩) kk
    · rw [if_neg hc] at hf
      obtain ⟨hc, hf⟩ := zGd_inv hf
      refine zEv_gd 4 (c := zIn v2 8) (f1 := (14, [some (.ref 69), some (.int v1), some (.int v2), some (.int v3)], [])) (h1 := zHp (zUp I 69 (Int32.toNatClampNeg v2) v1)) (fun n => rfl) hc ?_
      refine zEv_go 2 (f1 := (5, [some (.ref 69), some (.int v1), some (.int (v2 + 1)), some (.int v3)], [])) (h1 := zHp (zUp I 69 (Int32.toNatClampNeg v2) v1)) (fun n => rfl) ?_
      refine zEv_weak (L := [some (.ref 69), some (.int v1), some (.int (v2 + 1)), some (.int v3)]) (by exact ⟨rfl, ⟨rfl, ⟨rfl, ⟨rfl, trivial⟩⟩⟩⟩) ?_
      exact ih hf kk
def Ar_fill_69 (n : Nat) (a0 : Int32) (I : zI) : Option (zI) :=
  (Ar_fill_69_L5 n a0 0 8 I).bind fun I353 =>
  some I353
theorem s_Ar_fill_69 {n : Nat} {a0 : Int32} {I : zI} {I' : zI} (hf : Ar_fill_69 n a0 I = some I') (d : Nat) (hd : 0 ≤ d) : zCall d 198 [.ref 69, .int a0] (zHp I) (none) (zHp I') := by
  rw [Ar_fill_69] at hf
  show zEv _ _ _ (0, [some (.ref 69), some (.int a0), none, none], []) _ _ _
  obtain ⟨I353, hx, hf⟩ := Option.bind_eq_some_iff.mp hf
  refine zEv_go 5 (f1 := (5, [some (.ref 69), some (.int a0), some (.int 0), some (.int 8)], [])) (h1 := zHp I) (fun n => rfl) ?_
  refine zEv_weak (L := [some (.ref 69), some (.int a0), some (.int 0), some (.int 8)]) (by exact ⟨rfl, ⟨rfl, ⟨rfl, ⟨rfl, trivial⟩⟩⟩⟩) (s_Ar_fill_69_L5 (d) (by omega) n hx ?_)
  cases hf
  exact zEv_ret 1 (fun n => rfl)
def Rw_fillWith_68 (n : Nat) (a0 : Int32) (I : zI) : Option (zI) :=
  (Ar_fill_69 n a0 I).bind fun I354 =>
  some I354
theorem s_Rw_fillWith_68 {n : Nat} {a0 : Int32} {I : zI} {I' : zI} (hf : Rw_fillWith_68 n a0 I = some I') (d : Nat) (hd : 1 ≤ d) : zCall d 62 [.ref 68, .int a0] (zHp I) (none) (zHp I') := by
  obtain ⟨d, rfl⟩ : ∃ e, d = e + 1 := ⟨d - 1, by omega⟩
  rw [Rw_fillWith_68] at hf
  show zEv _ _ _ (0, [some (.ref 68), some (.int a0)], []) _ _ _
  obtain ⟨I354, hx, hf⟩ := Option.bind_eq_some_iff.mp hf
  refine zEv_call 4 (N := 198) (vs := [.ref 69, .int a0]) (v1 := none) (h1 := zHp I354) (L := [some (.ref 68), some (.int a0)]) (rest := []) (pc := 8) (fun n => rfl) (s_Ar_fill_69 hx d (by omega)) rfl rfl ?_
  show zEv _ _ _ (8, [some (.ref 68), some (.int a0)], []) _ _ _
  cases hf
  exact zEv_ret 1 (fun n => rfl)
def Rw_at_68  (a0 : Int32) (I : zI) : Option (Int32) :=
  if a0 < 0 then
    some (-6)
  else
    if 8 ≤ a0 then
      some (-6)
    else
      if zIn a0 8 then
        some (I 69 (Int32.toNatClampNeg a0))
      else none
theorem s_Rw_at_68  {a0 : Int32} {I : zI} {r : Int32} (hf : Rw_at_68 a0 I = some r) (d : Nat) (hd : 0 ≤ d) : zCall d 60 [.ref 68, .int a0] (zHp I) (some (.int r)) (zHp I) := by
  rw [Rw_at_68] at hf
  show zEv _ _ _ (0, [some (.ref 68), some (.int a0)], []) _ _ _
  refine zEv_if 2 (c := a0 < 0) (f1 := (22, [some (.ref 68), some (.int a0)], [])) (f2 := (4, [some (.ref 68), some (.int a0)], [])) (h1 := zHp I) (fun n => rfl) (fun hc => ?_) (fun hc => ?_)
  · rw [if_pos hc] at hf
    cases hf
    exact zEv_ret 2 (fun n => rfl)
  · rw [if_neg hc] at hf
    refine zEv_if 5 (c := 8 ≤ a0) (f1 := (22, [some (.ref 68), some (.int a0)], [])) (f2 := (13, [some (.ref 68), some (.int a0)], [])) (h1 := zHp I) (fun n => rfl) (fun hc => ?_) (fun hc => ?_)
    · rw [if_pos hc] at hf
      cases hf
      exact zEv_ret 2 (fun n => rfl)
    · rw [if_neg hc] at hf
      obtain ⟨hc, hf⟩ := zGd_inv hf
      refine zEv_gd 4 (c := zIn a0 8) (f1 := (19, [some (.ref 68), some (.int a0)], [.int (I 69 (Int32.toNatClampNeg a0))])) (h1 := zHp I) (fun n => rfl) hc ?_
      cases hf
      exact zEv_ret 2 (fun n => rfl)
def Rw_put_68  (a0 : Int32) (a1 : Int32) (I : zI) : Option (zI) :=
  if a0 < 0 then
    some I
  else
    if 8 ≤ a0 then
      some I
    else
      if zIn a0 8 then
        some (zUp I 69 (Int32.toNatClampNeg a0) a1)
      else none
theorem s_Rw_put_68  {a0 : Int32} {a1 : Int32} {I : zI} {I' : zI} (hf : Rw_put_68 a0 a1 I = some I') (d : Nat) (hd : 0 ≤ d) : zCall d 61 [.ref 68, .int a0, .int a1] (zHp I) (none) (zHp I') := by
  rw [Rw_put_68] at hf
  show zEv _ _ _ (0, [some (.ref 68), some (.int a0), some (.int a1)], []) _ _ _
  refine zEv_if 2 (c := a0 < 0) (f1 := (20, [some (.ref 68), some (.int a0), some (.int a1)], [])) (f2 := (4, [some (.ref 68), some (.int a0), some (.int a1)], [])) (h1 := zHp I) (fun n => rfl) (fun hc => ?_) (fun hc => ?_)
  · rw [if_pos hc] at hf
    cases hf
    exact zEv_ret 1 (fun n => rfl)
  · rw [if_neg hc] at hf
    refine zEv_if 5 (c := 8 ≤ a0) (f1 := (20, [some (.ref 68), some (.int a0), some (.int a1)], [])) (f2 := (13, [some (.ref 68), some (.int a0), some (.int a1)], [])) (h1 := zHp I) (fun n => rfl) (fun hc => ?_) (fun hc => ?_)
    · rw [if_pos hc] at hf
      cases hf
      exact zEv_ret 1 (fun n => rfl)
    · rw [if_neg hc] at hf
      obtain ⟨hc, hf⟩ := zGd_inv hf
      refine zEv_gd 5 (c := zIn a0 8) (f1 := (20, [some (.ref 68), some (.int a0), some (.int a1)], [])) (h1 := zHp (zUp I 69 (Int32.toNatClampNeg a0) a1)) (fun n => rfl) hc ?_
      cases hf
      exact zEv_ret 1 (fun n => rfl)
def Su_countHolders_L10 : Nat → Int32 → Int32 → zI → Option (zI)
  | 0, _, _, _ => none
  | n + 1, v1, v2, I =>
    if (I 65 2) ≤ v2 then
      some I
    else
      (Rw_at_66 v2 I).bind fun x356 =>
      (Rw_at_66 v2 I).bind fun x357 =>
      (Su_holder (x356 / 10) (zRem x357 10) v1 I).bind fun x358 =>
      (Rw_at_68 x358 I).bind fun x359 =>
      (Rw_put_68 x358 (x359 + 1) I).bind fun I360 =>
      Su_countHolders_L10 n v1 (v2 + 1) I360
theorem s_Su_countHolders_L10 (d : Nat) (hd : 2 ≤ d) : ∀ (n : Nat) {v1 : Int32} {v2 : Int32} {I : zI}  {I' : zI} {v : Option Value} {h' : zH}, Su_countHolders_L10 n v1 v2 I = some I' → zEv none d 68 (69, [some (.ref 65), none, none, none], []) (zHp I') v h' → zEv none d 68 (10, [some (.ref 65), some (.int v1), some (.int v2), none], []) (zHp I) v h' := by
  obtain ⟨d, rfl⟩ : ∃ e, d = e + 1 := ⟨d - 1, by omega⟩
  intro n
  induction n with
  | zero => intros; rename_i hf _; cases hf
  | succ n ih =>
    intro v1 v2 I I' v h' hf kk
    rw [Su_countHolders_L10] at hf
    refine zEv_if 4 (c := (I 65 2) ≤ v2) (f1 := (69, [some (.ref 65), some (.int v1), some (.int v2), none], [])) (f2 := (18, [some (.ref 65), some (.int v1), some (.int v2), none], [])) (h1 := zHp I) (fun n => rfl) (fun hc => ?_) (fun hc => ?_)
    · rw [if_pos hc] at hf
      obtain rfl := Option.some.inj hf
      exact zEv_weak (L := [some (.ref 65), none, none, none]) (by exact ⟨rfl, ⟨rfl, ⟨rfl, ⟨rfl, trivial⟩⟩⟩⟩) kk
    · rw [if_neg hc] at hf
      obtain ⟨x356, hx, hf⟩ := Option.bind_eq_some_iff.mp hf
      refine zEv_call 4 (N := 60) (vs := [.ref 66, .int v2]) (v1 := some (.int x356)) (h1 := zHp I) (L := [some (.ref 65), some (.int v1), some (.int v2), none]) (rest := []) (pc := 26) (fun n => rfl) (s_Rw_at_66 hx d (by omega)) rfl rfl ?_
      show zEv _ _ _ (26, [some (.ref 65), some (.int v1), some (.int v2), none], [.int x356]) _ _ _
      obtain ⟨x357, hx, hf⟩ := Option.bind_eq_some_iff.mp hf
      refine zEv_call 6 (N := 60) (vs := [.ref 66, .int v2]) (v1 := some (.int x357)) (h1 := zHp I) (L := [some (.ref 65), some (.int v1), some (.int v2), none]) (rest := [.int (x356 / 10)]) (pc := 37) (fun n => rfl) (s_Rw_at_66 hx d (by omega)) rfl rfl ?_
      show zEv _ _ _ (37, [some (.ref 65), some (.int v1), some (.int v2), none], [.int x357, .int (x356 / 10)]) _ _ _
      obtain ⟨x358, hx, hf⟩ := Option.bind_eq_some_iff.mp hf
      refine zEv_call 4 (N := 66) (vs := [.int (x356 / 10), .int (zRem x357 10), .int v1]) (v1 := some (.int x358)) (h1 := zHp I) (L := [some (.ref 65), some (.int v1), some (.int v2), none]) (rest := []) (pc := 44) (fun n => rfl) (s_Su_holder hx d (by omega)) rfl rfl ?_
      show zEv _ _ _ (44, [some (.ref 65), some (.int v1), some (.int v2), none], [.int x358]) _ _ _
      obtain ⟨x359, hx, hf⟩ := Option.bind_eq_some_iff.mp hf
      refine zEv_call 8 (N := 60) (vs := [.ref 68, .int x358]) (v1 := some (.int x359)) (h1 := zHp I) (L := [some (.ref 65), some (.int v1), some (.int v2), some (.int x358)]) (rest := [.int x358, .ref 68]) (pc := 58) (fun n => rfl) (s_Rw_at_68 hx d (by omega)) rfl rfl ?_
      show zEv _ _ _ (58, [some (.ref 65), some (.int v1), some (.int v2), some (.int x358)], [.int x359, .int x358, .ref 68]) _ _ _
      obtain ⟨I360, hx, hf⟩ := Option.bind_eq_some_iff.mp hf
      refine zEv_call 3 (N := 61) (vs := [.ref 68, .int x358, .int (x359 + 1)]) (v1 := none) (h1 := zHp I360) (L := [some (.ref 65), some (.int v1), some (.int v2), some (.int x358)]) (rest := []) (pc := 63) (fun n => rfl) (s_Rw_put_68 hx d (by omega)) rfl rfl ?_
      show zEv _ _ _ (63, [some (.ref 65), some (.int v1), some (.int v2), some (.int x358)], []) _ _ _
      refine zEv_go 2 (f1 := (10, [some (.ref 65), some (.int v1), some (.int (v2 + 1)), some (.int x358)], [])) (h1 := zHp I360) (fun n => rfl) ?_
      refine zEv_weak (L := [some (.ref 65), some (.int v1), some (.int (v2 + 1)), none]) (by exact ⟨rfl, ⟨rfl, ⟨rfl, ⟨rfl, trivial⟩⟩⟩⟩) ?_
      exact ih hf kk
def Su_countHolders (n : Nat) (a0 : Int32) (I : zI) : Option (zI) :=
  (Rw_fillWith_68 n 0 I).bind fun I355 =>
  (Su_countHolders_L10 n a0 0 I355).bind fun I361 =>
  some I361
theorem s_Su_countHolders {n : Nat} {a0 : Int32} {I : zI} {I' : zI} (hf : Su_countHolders n a0 I = some I') (d : Nat) (hd : 2 ≤ d) : zCall d 68 [.ref 65, .int a0] (zHp I) (none) (zHp I') := by
  obtain ⟨d, rfl⟩ : ∃ e, d = e + 1 := ⟨d - 1, by omega⟩
  rw [Su_countHolders] at hf
  show zEv _ _ _ (0, [some (.ref 65), some (.int a0), none, none], []) _ _ _
  obtain ⟨I355, hx, hf⟩ := Option.bind_eq_some_iff.mp hf
  refine zEv_call 4 (N := 62) (vs := [.ref 68, .int 0]) (v1 := none) (h1 := zHp I355) (L := [some (.ref 65), some (.int a0), none, none]) (rest := []) (pc := 8) (fun n => rfl) (s_Rw_fillWith_68 hx d (by omega)) rfl rfl ?_
  show zEv _ _ _ (8, [some (.ref 65), some (.int a0), none, none], []) _ _ _
  obtain ⟨I361, hx, hf⟩ := Option.bind_eq_some_iff.mp hf
  refine zEv_go 2 (f1 := (10, [some (.ref 65), some (.int a0), some (.int 0), none], [])) (h1 := zHp I355) (fun n => rfl) ?_
  refine zEv_weak (L := [some (.ref 65), some (.int a0), some (.int 0), none]) (by exact ⟨rfl, ⟨rfl, ⟨rfl, ⟨rfl, trivial⟩⟩⟩⟩) (s_Su_countHolders_L10 (d + 1) (by omega) n hx ?_)
  cases hf
  exact zEv_ret 1 (fun n => rfl)
def Su_chooseQuestion_L27 : Nat → Int32 → Int32 → zI → Option (zI)
  | 0, _, _, _ => none
  | n + 1, v1, v2, I =>
    if 8 ≤ v2 then
      some I
    else
      (Rw_at_68 v2 I).bind fun x363 =>
      (Rw_at_68 v2 I).bind fun x364 =>
      (
        if (I 65 4) ≤ (if x363 < ((I 65 2) - x364) then ((I 65 2) - x364) else x363) then
          some I
        else
          some (zUp (zUp I 65 4 (if x363 < ((I 65 2) - x364) then ((I 65 2) - x364) else x363)) 65 3 ((10 * v1) + v2)) : Option (zI)).bind fun I366 =>
      Su_chooseQuestion_L27 n v1 (v2 + 1) I366
theorem s_Su_chooseQuestion_L27 (d : Nat) (hd : 3 ≤ d) : ∀ (n : Nat) {v1 : Int32} {v2 : Int32} {I : zI}  {I' : zI} {v : Option Value} {h' : zH}, Su_chooseQuestion_L27 n v1 v2 I = some I' → zEv none d 67 (87, [some (.ref 65), some (.int v1), none, none], []) (zHp I') v h' → zEv none d 67 (27, [some (.ref 65), some (.int v1), some (.int v2), none], []) (zHp I) v h' := by
  obtain ⟨d, rfl⟩ : ∃ e, d = e + 1 := ⟨d - 1, by omega⟩
  intro n
  induction n with
  | zero => intros; rename_i hf _; cases hf
  | succ n ih =>
    intro v1 v2 I I' v h' hf kk
    rw [Su_chooseQuestion_L27] at hf
    refine zEv_if 3 (c := 8 ≤ v2) (f1 := (87, [some (.ref 65), some (.int v1), some (.int v2), none], [])) (f2 := (33, [some (.ref 65), some (.int v1), some (.int v2), none], [])) (h1 := zHp I) (fun n => rfl) (fun hc => ?_) (fun hc => ?_)
    · rw [if_pos hc] at hf
      obtain rfl := Option.some.inj hf
      exact zEv_weak (L := [some (.ref 65), some (.int v1), none, none]) (by exact ⟨rfl, ⟨rfl, ⟨rfl, ⟨rfl, trivial⟩⟩⟩⟩) kk
    · rw [if_neg hc] at hf
      obtain ⟨x363, hx, hf⟩ := Option.bind_eq_some_iff.mp hf
      refine zEv_call 4 (N := 60) (vs := [.ref 68, .int v2]) (v1 := some (.int x363)) (h1 := zHp I) (L := [some (.ref 65), some (.int v1), some (.int v2), none]) (rest := []) (pc := 41) (fun n => rfl) (s_Rw_at_68 hx d (by omega)) rfl rfl ?_
      show zEv _ _ _ (41, [some (.ref 65), some (.int v1), some (.int v2), none], [.int x363]) _ _ _
      obtain ⟨x364, hx, hf⟩ := Option.bind_eq_some_iff.mp hf
      refine zEv_call 6 (N := 60) (vs := [.ref 68, .int v2]) (v1 := some (.int x364)) (h1 := zHp I) (L := [some (.ref 65), some (.int v1), some (.int v2), none]) (rest := [.int (I 65 2), .int x363]) (pc := 53) (fun n => rfl) (s_Rw_at_68 hx d (by omega)) rfl rfl ?_
      show zEv _ _ _ (53, [some (.ref 65), some (.int v1), some (.int v2), none], [.int x364, .int (I 65 2), .int x363]) _ _ _
      obtain ⟨I366, hm_m365, hf⟩ := Option.bind_eq_some_iff.mp hf
      have hJ_m365 : zEv none (d + 1) 67 (81, [some (.ref 65), some (.int v1), some (.int v2), none], []) (zHp I366) v h' := by
        refine zEv_go 2 (f1 := (27, [some (.ref 65), some (.int v1), some (.int (v2 + 1)), none], [])) (h1 := zHp I366) (fun n => rfl) ?_
        refine zEv_weak (L := [some (.ref 65), some (.int v1), some (.int (v2 + 1)), none]) (by exact ⟨rfl, ⟨rfl, ⟨rfl, ⟨rfl, trivial⟩⟩⟩⟩) ?_
        exact ih hf kk
      clear hf
      refine zEv_if 7 (c := (I 65 4) ≤ (if x363 < ((I 65 2) - x364) then ((I 65 2) - x364) else x363)) (f1 := (81, [some (.ref 65), some (.int v1), some (.int v2), some (.int (if x363 < ((I 65 2) - x364) then ((I 65 2) - x364) else x363))], [])) (f2 := (66, [some (.ref 65), some (.int v1), some (.int v2), some (.int (if x363 < ((I 65 2) - x364) then ((I 65 2) - x364) else x363))], [])) (h1 := zHp I) (fun n => rfl) (fun hc => ?_) (fun hc => ?_)
      · rw [if_pos hc] at hm_m365
        obtain rfl := Option.some.inj hm_m365
        exact zEv_weak (L := [some (.ref 65), some (.int v1), some (.int v2), none]) (by exact ⟨rfl, ⟨rfl, ⟨rfl, ⟨rfl, trivial⟩⟩⟩⟩) hJ_m365
      · rw [if_neg hc] at hm_m365
        obtain rfl := Option.some.inj hm_m365
        refine zEv_go 10 (f1 := (81, [some (.ref 65), some (.int v1), some (.int v2), some (.int (if x363 < ((I 65 2) - x364) then ((I 65 2) - x364) else x363))], [])) (h1 := zHp (zUp (zUp I 65 4 (if x363 < ((I 65 2) - x364) then ((I 65 2) - x364) else x363)) 65 3 ((10 * v1) + v2))) (fun n => rfl) ?_
        exact zEv_weak (L := [some (.ref 65), some (.int v1), some (.int v2), none]) (by exact ⟨rfl, ⟨rfl, ⟨rfl, ⟨rfl, trivial⟩⟩⟩⟩) hJ_m365
def Su_chooseQuestion_L14 : Nat → Int32 → zI → Option (zI)
  | 0, _, _ => none
  | n + 1, v1, I =>
    if 60 < v1 then
      some I
    else
      (Su_countHolders n v1 I).bind fun I362 =>
      (Su_chooseQuestion_L27 n v1 0 I362).bind fun I367 =>
      Su_chooseQuestion_L14 n (v1 + 1) I367
theorem s_Su_chooseQuestion_L14 (d : Nat) (hd : 3 ≤ d) : ∀ (n : Nat) {v1 : Int32} {I : zI}  {I' : zI} {v : Option Value} {h' : zH}, Su_chooseQuestion_L14 n v1 I = some I' → zEv none d 67 (93, [some (.ref 65), none, none, none], []) (zHp I') v h' → zEv none d 67 (14, [some (.ref 65), some (.int v1), none, none], []) (zHp I) v h' := by
  obtain ⟨d, rfl⟩ : ∃ e, d = e + 1 := ⟨d - 1, by omega⟩
  intro n
  induction n with
  | zero => intros; rename_i hf _; cases hf
  | succ n ih =>
    intro v1 I I' v h' hf kk
    rw [Su_chooseQuestion_L14] at hf
    refine zEv_if 3 (c := 60 < v1) (f1 := (93, [some (.ref 65), some (.int v1), none, none], [])) (f2 := (20, [some (.ref 65), some (.int v1), none, none], [])) (h1 := zHp I) (fun n => rfl) (fun hc => ?_) (fun hc => ?_)
    · rw [if_pos hc] at hf
      obtain rfl := Option.some.inj hf
      exact zEv_weak (L := [some (.ref 65), none, none, none]) (by exact ⟨rfl, ⟨rfl, ⟨rfl, ⟨rfl, trivial⟩⟩⟩⟩) kk
    · rw [if_neg hc] at hf
      obtain ⟨I362, hx, hf⟩ := Option.bind_eq_some_iff.mp hf
      refine zEv_call 3 (N := 68) (vs := [.ref 65, .int v1]) (v1 := none) (h1 := zHp I362) (L := [some (.ref 65), some (.int v1), none, none]) (rest := []) (pc := 25) (fun n => rfl) (s_Su_countHolders hx d (by omega)) rfl rfl ?_
      show zEv _ _ _ (25, [some (.ref 65), some (.int v1), none, none], []) _ _ _
      obtain ⟨I367, hx, hf⟩ := Option.bind_eq_some_iff.mp hf
      refine zEv_go 2 (f1 := (27, [some (.ref 65), some (.int v1), some (.int 0), none], [])) (h1 := zHp I362) (fun n => rfl) ?_
      refine zEv_weak (L := [some (.ref 65), some (.int v1), some (.int 0), none]) (by exact ⟨rfl, ⟨rfl, ⟨rfl, ⟨rfl, trivial⟩⟩⟩⟩) (s_Su_chooseQuestion_L27 (d + 1) (by omega) n hx ?_)
      refine zEv_go 2 (f1 := (14, [some (.ref 65), some (.int (v1 + 1)), none, none], [])) (h1 := zHp I367) (fun n => rfl) ?_
      refine zEv_weak (L := [some (.ref 65), some (.int (v1 + 1)), none, none]) (by exact ⟨rfl, ⟨rfl, ⟨rfl, ⟨rfl, trivial⟩⟩⟩⟩) ?_
      exact ih hf kk
def Su_chooseQuestion (n : Nat) (I : zI) : Option (zI) :=
  (Su_chooseQuestion_L14 n 0 (zUp (zUp I 65 3 (-6)) 65 4 36)).bind fun I368 =>
  some I368
theorem s_Su_chooseQuestion {n : Nat} {I : zI} {I' : zI} (hf : Su_chooseQuestion n I = some I') (d : Nat) (hd : 3 ≤ d) : zCall d 67 [.ref 65] (zHp I) (none) (zHp I') := by
  obtain ⟨d, rfl⟩ : ∃ e, d = e + 1 := ⟨d - 1, by omega⟩
  rw [Su_chooseQuestion] at hf
  show zEv _ _ _ (0, [some (.ref 65), none, none, none], []) _ _ _
  obtain ⟨I368, hx, hf⟩ := Option.bind_eq_some_iff.mp hf
  refine zEv_go 8 (f1 := (14, [some (.ref 65), some (.int 0), none, none], [])) (h1 := zHp (zUp (zUp I 65 3 (-6)) 65 4 36)) (fun n => rfl) ?_
  refine zEv_weak (L := [some (.ref 65), some (.int 0), none, none]) (by exact ⟨rfl, ⟨rfl, ⟨rfl, ⟨rfl, trivial⟩⟩⟩⟩) (s_Su_chooseQuestion_L14 (d + 1) (by omega) n hx ?_)
  cases hf
  exact zEv_ret 1 (fun n => rfl)
def BM_ask (n : Nat) (a0 : Int32) (I : zI) : Option (Int32 × zI) :=
  (BM_isWithin a0 0 1 I).bind fun x351 =>
  if x351 = 0 then
    some ((-2), I)
  else
    (Su_sift_2 n I).bind fun I352 =>
    if (I352 65 2) = 0 then
      some ((-6), I352)
    else
      (Su_chooseQuestion n I352).bind fun I369 =>
      if a0 = 0 then
        some ((I369 65 3), I369)
      else
        some ((I369 65 4), I369)
theorem s_BM_ask {n : Nat} {a0 : Int32} {I : zI} {r : Int32} {I' : zI} (hf : BM_ask n a0 I = some (r, I')) (d : Nat) (hd : 4 ≤ d) : zCall d 101 [.ref 1, .int a0] (zHp I) (some (.int r)) (zHp I') := by
  obtain ⟨d, rfl⟩ : ∃ e, d = e + 1 := ⟨d - 1, by omega⟩
  rw [BM_ask] at hf
  show zEv _ _ _ (0, [some (.ref 1), some (.int a0)], []) _ _ _
  obtain ⟨x351, hx, hf⟩ := Option.bind_eq_some_iff.mp hf
  refine zEv_call 4 (N := 109) (vs := [.int a0, .int 0, .int 1]) (v1 := some (.int x351)) (h1 := zHp I) (L := [some (.ref 1), some (.int a0)]) (rest := []) (pc := 6) (fun n => rfl) (s_BM_isWithin hx d (by omega)) rfl rfl ?_
  show zEv _ _ _ (6, [some (.ref 1), some (.int a0)], [.int x351]) _ _ _
  refine zEv_if 1 (c := x351 = 0) (f1 := (9, [some (.ref 1), some (.int a0)], [])) (f2 := (12, [some (.ref 1), some (.int a0)], [])) (h1 := zHp I) (fun n => rfl) (fun hc => ?_) (fun hc => ?_)
  · rw [if_pos hc] at hf
    cases hf
    exact zEv_ret 2 (fun n => rfl)
  · rw [if_neg hc] at hf
    obtain ⟨I352, hx, hf⟩ := Option.bind_eq_some_iff.mp hf
    refine zEv_call 5 (N := 65) (vs := [.ref 65, .ref 2]) (v1 := none) (h1 := zHp I352) (L := [some (.ref 1), some (.int a0)]) (rest := []) (pc := 23) (fun n => rfl) (s_Su_sift_2 hx d (by omega)) rfl rfl ?_
    show zEv _ _ _ (23, [some (.ref 1), some (.int a0)], []) _ _ _
    refine zEv_if 4 (c := (I352 65 2) = 0) (f1 := (33, [some (.ref 1), some (.int a0)], [])) (f2 := (36, [some (.ref 1), some (.int a0)], [])) (h1 := zHp I352) (fun n => rfl) (fun hc => ?_) (fun hc => ?_)
    · rw [if_pos hc] at hf
      cases hf
      exact zEv_ret 2 (fun n => rfl)
    · rw [if_neg hc] at hf
      obtain ⟨I369, hx, hf⟩ := Option.bind_eq_some_iff.mp hf
      refine zEv_call 3 (N := 67) (vs := [.ref 65]) (v1 := none) (h1 := zHp I369) (L := [some (.ref 1), some (.int a0)]) (rest := []) (pc := 43) (fun n => rfl) (s_Su_chooseQuestion hx d (by omega)) rfl rfl ?_
      show zEv _ _ _ (43, [some (.ref 1), some (.int a0)], []) _ _ _
      refine zEv_if 2 (c := a0 = 0) (f1 := (47, [some (.ref 1), some (.int a0)], [])) (f2 := (57, [some (.ref 1), some (.int a0)], [])) (h1 := zHp I369) (fun n => rfl) (fun hc => ?_) (fun hc => ?_)
      · rw [if_pos hc] at hf
        cases hf
        exact zEv_ret 5 (fun n => rfl)
      · rw [if_neg hc] at hf
        cases hf
        exact zEv_ret 4 (fun n => rfl)
def Rw_at_71  (a0 : Int32) (I : zI) : Option (Int32) :=
  if a0 < 0 then
    some (-6)
  else
    if 41 ≤ a0 then
      some (-6)
    else
      if zIn a0 41 then
        some (I 72 (Int32.toNatClampNeg a0))
      else none
theorem s_Rw_at_71  {a0 : Int32} {I : zI} {r : Int32} (hf : Rw_at_71 a0 I = some r) (d : Nat) (hd : 0 ≤ d) : zCall d 60 [.ref 71, .int a0] (zHp I) (some (.int r)) (zHp I) := by
  rw [Rw_at_71] at hf
  show zEv _ _ _ (0, [some (.ref 71), some (.int a0)], []) _ _ _
  refine zEv_if 2 (c := a0 < 0) (f1 := (22, [some (.ref 71), some (.int a0)], [])) (f2 := (4, [some (.ref 71), some (.int a0)], [])) (h1 := zHp I) (fun n => rfl) (fun hc => ?_) (fun hc => ?_)
  · rw [if_pos hc] at hf
    cases hf
    exact zEv_ret 2 (fun n => rfl)
  · rw [if_neg hc] at hf
    refine zEv_if 5 (c := 41 ≤ a0) (f1 := (22, [some (.ref 71), some (.int a0)], [])) (f2 := (13, [some (.ref 71), some (.int a0)], [])) (h1 := zHp I) (fun n => rfl) (fun hc => ?_) (fun hc => ?_)
    · rw [if_pos hc] at hf
      cases hf
      exact zEv_ret 2 (fun n => rfl)
    · rw [if_neg hc] at hf
      obtain ⟨hc, hf⟩ := zGd_inv hf
      refine zEv_gd 4 (c := zIn a0 41) (f1 := (19, [some (.ref 71), some (.int a0)], [.int (I 72 (Int32.toNatClampNeg a0))])) (h1 := zHp I) (fun n => rfl) hc ?_
      cases hf
      exact zEv_ret 2 (fun n => rfl)
def Tu_worthBehind  (a0 : Int32) (a1 : Int32) (I : zI) : Option (Int32) :=
  (Rw_at_71 (if 0 < (a1 - 1) then (a1 - 1) else 0) I).bind fun x372 =>
  (Rw_at_71 (if 0 < ((a0 - a1) - 2) then ((a0 - a1) - 2) else 0) I).bind fun x373 =>
  some (x372 ^^^ x373)
theorem s_Tu_worthBehind  {a0 : Int32} {a1 : Int32} {I : zI} {r : Int32} (hf : Tu_worthBehind a0 a1 I = some r) (d : Nat) (hd : 1 ≤ d) : zCall d 70 [.ref 70, .int a0, .int a1] (zHp I) (some (.int r)) (zHp I) := by
  obtain ⟨d, rfl⟩ : ∃ e, d = e + 1 := ⟨d - 1, by omega⟩
  rw [Tu_worthBehind] at hf
  show zEv _ _ _ (0, [some (.ref 70), some (.int a0), some (.int a1)], []) _ _ _
  obtain ⟨x372, hx, hf⟩ := Option.bind_eq_some_iff.mp hf
  refine zEv_call 8 (N := 60) (vs := [.ref 71, .int (if 0 < (a1 - 1) then (a1 - 1) else 0)]) (v1 := some (.int x372)) (h1 := zHp I) (L := [some (.ref 70), some (.int a0), some (.int a1)]) (rest := []) (pc := 14) (fun n => rfl) (s_Rw_at_71 hx d (by omega)) rfl rfl ?_
  show zEv _ _ _ (14, [some (.ref 70), some (.int a0), some (.int a1)], [.int x372]) _ _ _
  obtain ⟨x373, hx, hf⟩ := Option.bind_eq_some_iff.mp hf
  refine zEv_call 10 (N := 60) (vs := [.ref 71, .int (if 0 < ((a0 - a1) - 2) then ((a0 - a1) - 2) else 0)]) (v1 := some (.int x373)) (h1 := zHp I) (L := [some (.ref 70), some (.int a0), some (.int a1)]) (rest := [.int x372]) (pc := 30) (fun n => rfl) (s_Rw_at_71 hx d (by omega)) rfl rfl ?_
  show zEv _ _ _ (30, [some (.ref 70), some (.int a0), some (.int a1)], [.int x373, .int x372]) _ _ _
  cases hf
  exact zEv_ret 2 (fun n => rfl)
def Tu_winningBench_L2 : Nat → Int32 → Int32 → zI → Option (Int32)
  | 0, _, _, _ => none
  | n + 1, v1, v2, I =>
    if v1 ≤ v2 then
      some (-6)
    else
      (Tu_worthBehind v1 v2 I).bind fun x374 =>
      if x374 = 0 then
        some v2
      else
        Tu_winningBench_L2 n v1 (v2 + 1) I
theorem s_Tu_winningBench_L2 (d : Nat) (hd : 2 ≤ d) : ∀ (n : Nat) {v1 : Int32} {v2 : Int32} {I : zI} {r : Int32}, Tu_winningBench_L2 n v1 v2 I = some r → zEv none d 71 (2, [some (.ref 70), some (.int v1), some (.int v2)], []) (zHp I) (some (.int r)) (zHp I) := by
  obtain ⟨d, rfl⟩ : ∃ e, d = e + 1 := ⟨d - 1, by omega⟩
  intro n
  induction n with
  | zero => intros; rename_i hf; cases hf
  | succ n ih =>
    intro v1 v2 I r hf
    rw [Tu_winningBench_L2] at hf
    refine zEv_if 3 (c := v1 ≤ v2) (f1 := (24, [some (.ref 70), some (.int v1), some (.int v2)], [])) (f2 := (7, [some (.ref 70), some (.int v1), some (.int v2)], [])) (h1 := zHp I) (fun n => rfl) (fun hc => ?_) (fun hc => ?_)
    · rw [if_pos hc] at hf
      cases hf
      exact zEv_ret 2 (fun n => rfl)
    · rw [if_neg hc] at hf
      obtain ⟨x374, hx, hf⟩ := Option.bind_eq_some_iff.mp hf
      refine zEv_call 4 (N := 70) (vs := [.ref 70, .int v1, .int v2]) (v1 := some (.int x374)) (h1 := zHp I) (L := [some (.ref 70), some (.int v1), some (.int v2)]) (rest := []) (pc := 13) (fun n => rfl) (s_Tu_worthBehind hx d (by omega)) rfl rfl ?_
      show zEv _ _ _ (13, [some (.ref 70), some (.int v1), some (.int v2)], [.int x374]) _ _ _
      refine zEv_if 1 (c := x374 = 0) (f1 := (16, [some (.ref 70), some (.int v1), some (.int v2)], [])) (f2 := (18, [some (.ref 70), some (.int v1), some (.int v2)], [])) (h1 := zHp I) (fun n => rfl) (fun hc => ?_) (fun hc => ?_)
      · rw [if_pos hc] at hf
        cases hf
        exact zEv_ret 2 (fun n => rfl)
      · rw [if_neg hc] at hf
        refine zEv_go 2 (f1 := (2, [some (.ref 70), some (.int v1), some (.int (v2 + 1))], [])) (h1 := zHp I) (fun n => rfl) ?_
        refine zEv_weak (L := [some (.ref 70), some (.int v1), some (.int (v2 + 1))]) (by exact ⟨rfl, ⟨rfl, ⟨rfl, trivial⟩⟩⟩) ?_
        exact ih hf
def Tu_winningBench (n : Nat) (a0 : Int32) (I : zI) : Option (Int32) :=
  Tu_winningBench_L2 n a0 0 I
theorem s_Tu_winningBench {n : Nat} {a0 : Int32} {I : zI} {r : Int32} (hf : Tu_winningBench n a0 I = some r) (d : Nat) (hd : 2 ≤ d) : zCall d 71 [.ref 70, .int a0] (zHp I) (some (.int r)) (zHp I) := by
  obtain ⟨d, rfl⟩ : ∃ e, d = e + 1 := ⟨d - 1, by omega⟩
  rw [Tu_winningBench] at hf
  show zEv _ _ _ (0, [some (.ref 70), some (.int a0), none], []) _ _ _
  refine zEv_go 2 (f1 := (2, [some (.ref 70), some (.int a0), some (.int 0)], [])) (h1 := zHp I) (fun n => rfl) ?_
  exact zEv_weak (L := [some (.ref 70), some (.int a0), some (.int 0)]) (by exact ⟨rfl, ⟨rfl, ⟨rfl, trivial⟩⟩⟩) (s_Tu_winningBench_L2 (d + 1) (by omega) n hf)
def BM_take (n : Nat) (a0 : Int32) (a1 : Int32) (I : zI) : Option (Int32) :=
  (BM_isWithin a0 0 40 I).bind fun x370 =>
  if x370 = 0 then
    some (-2)
  else
    (BM_isWithin a1 0 1 I).bind fun x371 =>
    if x371 = 0 then
      some (-2)
    else
      (Tu_winningBench n a0 I).bind fun x375 =>
      if a1 = 1 then
        some x375
      else
        if x375 = (-6) then
          some 0
        else
          some 1
theorem s_BM_take {n : Nat} {a0 : Int32} {a1 : Int32} {I : zI} {r : Int32} (hf : BM_take n a0 a1 I = some r) (d : Nat) (hd : 3 ≤ d) : zCall d 102 [.ref 1, .int a0, .int a1] (zHp I) (some (.int r)) (zHp I) := by
  obtain ⟨d, rfl⟩ : ∃ e, d = e + 1 := ⟨d - 1, by omega⟩
  rw [BM_take] at hf
  show zEv _ _ _ (0, [some (.ref 1), some (.int a0), some (.int a1), none], []) _ _ _
  obtain ⟨x370, hx, hf⟩ := Option.bind_eq_some_iff.mp hf
  refine zEv_call 4 (N := 109) (vs := [.int a0, .int 0, .int 40]) (v1 := some (.int x370)) (h1 := zHp I) (L := [some (.ref 1), some (.int a0), some (.int a1), none]) (rest := []) (pc := 7) (fun n => rfl) (s_BM_isWithin hx d (by omega)) rfl rfl ?_
  show zEv _ _ _ (7, [some (.ref 1), some (.int a0), some (.int a1), none], [.int x370]) _ _ _
  refine zEv_if 1 (c := x370 = 0) (f1 := (19, [some (.ref 1), some (.int a0), some (.int a1), none], [])) (f2 := (10, [some (.ref 1), some (.int a0), some (.int a1), none], [])) (h1 := zHp I) (fun n => rfl) (fun hc => ?_) (fun hc => ?_)
  · rw [if_pos hc] at hf
    cases hf
    exact zEv_ret 2 (fun n => rfl)
  · rw [if_neg hc] at hf
    obtain ⟨x371, hx, hf⟩ := Option.bind_eq_some_iff.mp hf
    refine zEv_call 4 (N := 109) (vs := [.int a1, .int 0, .int 1]) (v1 := some (.int x371)) (h1 := zHp I) (L := [some (.ref 1), some (.int a0), some (.int a1), none]) (rest := []) (pc := 16) (fun n => rfl) (s_BM_isWithin hx d (by omega)) rfl rfl ?_
    show zEv _ _ _ (16, [some (.ref 1), some (.int a0), some (.int a1), none], [.int x371]) _ _ _
    refine zEv_if 1 (c := x371 = 0) (f1 := (19, [some (.ref 1), some (.int a0), some (.int a1), none], [])) (f2 := (22, [some (.ref 1), some (.int a0), some (.int a1), none], [])) (h1 := zHp I) (fun n => rfl) (fun hc => ?_) (fun hc => ?_)
    · rw [if_pos hc] at hf
      cases hf
      exact zEv_ret 2 (fun n => rfl)
    · rw [if_neg hc] at hf
      obtain ⟨x375, hx, hf⟩ := Option.bind_eq_some_iff.mp hf
      refine zEv_call 4 (N := 71) (vs := [.ref 70, .int a0]) (v1 := some (.int x375)) (h1 := zHp I) (L := [some (.ref 1), some (.int a0), some (.int a1), none]) (rest := []) (pc := 30) (fun n => rfl) (s_Tu_winningBench hx d (by omega)) rfl rfl ?_
      show zEv _ _ _ (30, [some (.ref 1), some (.int a0), some (.int a1), none], [.int x375]) _ _ _
      refine zEv_if 4 (c := a1 = 1) (f1 := (36, [some (.ref 1), some (.int a0), some (.int a1), some (.int x375)], [])) (f2 := (38, [some (.ref 1), some (.int a0), some (.int a1), some (.int x375)], [])) (h1 := zHp I) (fun n => rfl) (fun hc => ?_) (fun hc => ?_)
      · rw [if_pos hc] at hf
        cases hf
        exact zEv_ret 2 (fun n => rfl)
      · rw [if_neg hc] at hf
        refine zEv_if 3 (c := x375 = (-6)) (f1 := (44, [some (.ref 1), some (.int a0), some (.int a1), some (.int x375)], [])) (f2 := (48, [some (.ref 1), some (.int a0), some (.int a1), some (.int x375)], [])) (h1 := zHp I) (fun n => rfl) (fun hc => ?_) (fun hc => ?_)
        · rw [if_pos hc] at hf
          cases hf
          exact zEv_ret 3 (fun n => rfl)
        · rw [if_neg hc] at hf
          cases hf
          exact zEv_ret 2 (fun n => rfl)
def BM_power_L5 : Nat → Int32 → Int32 → Int64 → Int32 → zI → Option (Int64)
  | 0, _, _, _, _, _ => none
  | n + 1, v0, v1, v2, v4, I =>
    if v1 ≤ v4 then
      some v2
    else
      BM_power_L5 n v0 v1 (v2 * (Int32.toInt64 v0)) (v4 + 1) I
theorem s_BM_power_L5 (d : Nat) (hd : 0 ≤ d) : ∀ (n : Nat) {v0 : Int32} {v1 : Int32} {v2 : Int64} {v4 : Int32} {I : zI} {y2 : Int64} {v : Option Value} {h' : zH}, BM_power_L5 n v0 v1 v2 v4 I = some y2 → zEv none d 114 (22, [none, none, some (.long y2), none, none], []) (zHp I) v h' → zEv none d 114 (5, [some (.int v0), some (.int v1), some (.long v2), none, some (.int v4)], []) (zHp I) v h' := by
  intro n
  induction n with
  | zero => intros; rename_i hf _; cases hf
  | succ n ih =>
    intro v0 v1 v2 v4 I y2 v h' hf kk
    rw [BM_power_L5] at hf
    refine zEv_if 3 (c := v1 ≤ v4) (f1 := (22, [some (.int v0), some (.int v1), some (.long v2), none, some (.int v4)], [])) (f2 := (11, [some (.int v0), some (.int v1), some (.long v2), none, some (.int v4)], [])) (h1 := zHp I) (fun n => rfl) (fun hc => ?_) (fun hc => ?_)
    · rw [if_pos hc] at hf
      obtain rfl := Option.some.inj hf
      exact zEv_weak (L := [none, none, some (.long v2), none, none]) (by exact ⟨rfl, ⟨rfl, ⟨rfl, ⟨rfl, ⟨rfl, trivial⟩⟩⟩⟩⟩) kk
    · rw [if_neg hc] at hf
      refine zEv_go 7 (f1 := (5, [some (.int v0), some (.int v1), some (.long (v2 * (Int32.toInt64 v0))), none, some (.int (v4 + 1))], [])) (h1 := zHp I) (fun n => rfl) ?_
      refine zEv_weak (L := [some (.int v0), some (.int v1), some (.long (v2 * (Int32.toInt64 v0))), none, some (.int (v4 + 1))]) (by exact ⟨rfl, ⟨rfl, ⟨rfl, ⟨rfl, ⟨rfl, trivial⟩⟩⟩⟩⟩) ?_
      exact ih hf kk
def BM_power (n : Nat) (a0 : Int32) (a1 : Int32) (I : zI) : Option (Int64) :=
  (BM_power_L5 n a0 a1 1 0 I).bind fun x382 =>
  some x382
theorem s_BM_power {n : Nat} {a0 : Int32} {a1 : Int32} {I : zI} {r : Int64} (hf : BM_power n a0 a1 I = some r) (d : Nat) (hd : 0 ≤ d) : zCall d 114 [.int a0, .int a1] (zHp I) (some (.long r)) (zHp I) := by
  rw [BM_power] at hf
  show zEv _ _ _ (0, [some (.int a0), some (.int a1), none, none, none], []) _ _ _
  obtain ⟨x382, hx, hf⟩ := Option.bind_eq_some_iff.mp hf
  refine zEv_go 4 (f1 := (5, [some (.int a0), some (.int a1), some (.long 1), none, some (.int 0)], [])) (h1 := zHp I) (fun n => rfl) ?_
  refine zEv_weak (L := [some (.int a0), some (.int a1), some (.long 1), none, some (.int 0)]) (by exact ⟨rfl, ⟨rfl, ⟨rfl, ⟨rfl, ⟨rfl, trivial⟩⟩⟩⟩⟩) (s_BM_power_L5 (d) (by omega) n hx ?_)
  cases hf
  exact zEv_ret 2 (fun n => rfl)
def BM_commonDivisor_L9 : Nat → Int64 → Int64 → Int32 → zI → Option (Int64)
  | 0, _, _, _, _ => none
  | n + 1, v4, v6, v8, I =>
    if 200 ≤ v8 then
      some v4
    else
      if (lg_cmp v6 0) = 0 then
        some v4
      else
        if ¬ v6 = 0 then
          BM_commonDivisor_L9 n v6 (zLrem v4 v6) (v8 + 1) I
        else none
theorem s_BM_commonDivisor_L9 (d : Nat) (hd : 0 ≤ d) : ∀ (n : Nat) {v4 : Int64} {v6 : Int64} {v8 : Int32} {I : zI} {y4 : Int64} {v : Option Value} {h' : zH}, BM_commonDivisor_L9 n v4 v6 v8 I = some y4 → zEv none d 115 (45, [none, none, none, none, some (.long y4), none, none, none, none, none, none], []) (zHp I) v h' → zEv none d 115 (9, [none, none, none, none, some (.long v4), none, some (.long v6), none, some (.int v8), none, none], []) (zHp I) v h' := by
  intro n
  induction n with
  | zero => intros; rename_i hf _; cases hf
  | succ n ih =>
    intro v4 v6 v8 I y4 v h' hf kk
    rw [BM_commonDivisor_L9] at hf
    refine zEv_if 3 (c := 200 ≤ v8) (f1 := (45, [none, none, none, none, some (.long v4), none, some (.long v6), none, some (.int v8), none, none], [])) (f2 := (17, [none, none, none, none, some (.long v4), none, some (.long v6), none, some (.int v8), none, none], [])) (h1 := zHp I) (fun n => rfl) (fun hc => ?_) (fun hc => ?_)
    · rw [if_pos hc] at hf
      obtain rfl := Option.some.inj hf
      exact zEv_weak (L := [none, none, none, none, some (.long v4), none, none, none, none, none, none]) (by exact ⟨rfl, ⟨rfl, ⟨rfl, ⟨rfl, ⟨rfl, ⟨rfl, ⟨rfl, ⟨rfl, ⟨rfl, ⟨rfl, ⟨rfl, trivial⟩⟩⟩⟩⟩⟩⟩⟩⟩⟩⟩) kk
    · rw [if_neg hc] at hf
      refine zEv_if 4 (c := (lg_cmp v6 0) = 0) (f1 := (45, [none, none, none, none, some (.long v4), none, some (.long v6), none, some (.int v8), none, none], [])) (f2 := (24, [none, none, none, none, some (.long v4), none, some (.long v6), none, some (.int v8), none, none], [])) (h1 := zHp I) (fun n => rfl) (fun hc => ?_) (fun hc => ?_)
      · rw [if_pos hc] at hf
        obtain rfl := Option.some.inj hf
        exact zEv_weak (L := [none, none, none, none, some (.long v4), none, none, none, none, none, none]) (by exact ⟨rfl, ⟨rfl, ⟨rfl, ⟨rfl, ⟨rfl, ⟨rfl, ⟨rfl, ⟨rfl, ⟨rfl, ⟨rfl, ⟨rfl, trivial⟩⟩⟩⟩⟩⟩⟩⟩⟩⟩⟩) kk
      · rw [if_neg hc] at hf
        obtain ⟨hc, hf⟩ := zGd_inv hf
        refine zEv_gd 3 (c := ¬ v6 = 0) (f1 := (29, [none, none, none, none, some (.long v4), none, some (.long v6), none, some (.int v8), none, none], [.long (zLrem v4 v6)])) (h1 := zHp I) (fun n => rfl) hc ?_
        refine zEv_go 7 (f1 := (9, [none, none, none, none, some (.long v6), none, some (.long (zLrem v4 v6)), none, some (.int (v8 + 1)), some (.long (zLrem v4 v6)), none], [])) (h1 := zHp I) (fun n => rfl) ?_
        refine zEv_weak (L := [none, none, none, none, some (.long v6), none, some (.long (zLrem v4 v6)), none, some (.int (v8 + 1)), none, none]) (by exact ⟨rfl, ⟨rfl, ⟨rfl, ⟨rfl, ⟨rfl, ⟨rfl, ⟨rfl, ⟨rfl, ⟨rfl, ⟨rfl, ⟨rfl, trivial⟩⟩⟩⟩⟩⟩⟩⟩⟩⟩⟩) ?_
        exact ih hf kk
def BM_commonDivisor (n : Nat) (a0 : Int64) (a1 : Int64) (I : zI) : Option (Int64) :=
  (BM_commonDivisor_L9 n a0 a1 0 I).bind fun x387 =>
  some x387
theorem s_BM_commonDivisor {n : Nat} {a0 : Int64} {a1 : Int64} {I : zI} {r : Int64} (hf : BM_commonDivisor n a0 a1 I = some r) (d : Nat) (hd : 0 ≤ d) : zCall d 115 [.long a0, .long a1] (zHp I) (some (.long r)) (zHp I) := by
  rw [BM_commonDivisor] at hf
  show zEv _ _ _ (0, [some (.long a0), none, some (.long a1), none, none, none, none, none, none, none, none], []) _ _ _
  obtain ⟨x387, hx, hf⟩ := Option.bind_eq_some_iff.mp hf
  refine zEv_go 6 (f1 := (9, [some (.long a0), none, some (.long a1), none, some (.long a0), none, some (.long a1), none, some (.int 0), none, none], [])) (h1 := zHp I) (fun n => rfl) ?_
  refine zEv_weak (L := [none, none, none, none, some (.long a0), none, some (.long a1), none, some (.int 0), none, none]) (by exact ⟨rfl, ⟨rfl, ⟨rfl, ⟨rfl, ⟨rfl, ⟨rfl, ⟨rfl, ⟨rfl, ⟨rfl, ⟨rfl, ⟨rfl, trivial⟩⟩⟩⟩⟩⟩⟩⟩⟩⟩⟩) (s_BM_commonDivisor_L9 (d) (by omega) n hx ?_)
  cases hf
  exact zEv_ret 2 (fun n => rfl)
def BM_evenings (n : Nat) (a0 : Int32) (a1 : Int32) (a2 : Int32) (a3 : Int32) (I : zI) : Option (Int64) :=
  (BM_isWithin a0 0 12 I).bind fun x376 =>
  (
    if x376 = 0 then
      some 0
    else
      (BM_isWithin a1 1 10 I).bind fun x378 =>
      if x378 = 0 then
        some 0
      else
        (BM_isWithin a2 0 1 I).bind fun x379 =>
        if x379 = 0 then
          some 0
        else
          (BM_isWithin a3 0 1 I).bind fun x380 =>
          if x380 = 0 then
            some 0
          else
            some 1 : Option (Int32)).bind fun x381 =>
  if x381 = 0 then
    some (-1000000000000000002)
  else
    (BM_power n a1 a0 I).bind fun x383 =>
    (BM_power n (a1 - 1) a0 I).bind fun x384 =>
    (
      if a2 = 1 then
        some ((x383 - x384) * (Int32.toInt64 a1))
      else
        some (x383 - x384) : Option (Int64)).bind fun x386 =>
    (BM_commonDivisor n x386 x383 I).bind fun x388 =>
    (
      if a3 = 0 then
        some x386
      else
        some x383 : Option (Int64)).bind fun x390 =>
    if ¬ (if x388 < 1 then 1 else x388) = 0 then
      some (x390 / (if x388 < 1 then 1 else x388))
    else none
theorem s_BM_evenings {n : Nat} {a0 : Int32} {a1 : Int32} {a2 : Int32} {a3 : Int32} {I : zI} {r : Int64} (hf : BM_evenings n a0 a1 a2 a3 I = some r) (d : Nat) (hd : 1 ≤ d) : zCall d 103 [.ref 1, .int a0, .int a1, .int a2, .int a3] (zHp I) (some (.long r)) (zHp I) := by
  obtain ⟨d, rfl⟩ : ∃ e, d = e + 1 := ⟨d - 1, by omega⟩
  rw [BM_evenings] at hf
  show zEv _ _ _ (0, [some (.ref 1), some (.int a0), some (.int a1), some (.int a2), some (.int a3), none, none, none, none, none, none, none], []) _ _ _
  obtain ⟨x376, hx, hf⟩ := Option.bind_eq_some_iff.mp hf
  refine zEv_call 4 (N := 109) (vs := [.int a0, .int 0, .int 12]) (v1 := some (.int x376)) (h1 := zHp I) (L := [some (.ref 1), some (.int a0), some (.int a1), some (.int a2), some (.int a3), none, none, none, none, none, none, none]) (rest := []) (pc := 7) (fun n => rfl) (s_BM_isWithin hx d (by omega)) rfl rfl ?_
  show zEv _ _ _ (7, [some (.ref 1), some (.int a0), some (.int a1), some (.int a2), some (.int a3), none, none, none, none, none, none, none], [.int x376]) _ _ _
  obtain ⟨x381, hm_m377, hf⟩ := Option.bind_eq_some_iff.mp hf
  have hJ_m377 : zEv none (d + 1) 103 (44, [some (.ref 1), some (.int a0), some (.int a1), some (.int a2), some (.int a3), none, none, none, none, none, none, none], [.int x381]) (zHp I) (some (.long r)) (zHp I) := by
    refine zEv_if 3 (c := x381 = 0) (f1 := (51, [some (.ref 1), some (.int a0), some (.int a1), some (.int a2), some (.int a3), some (.int x381), none, none, none, none, none, none], [])) (f2 := (55, [some (.ref 1), some (.int a0), some (.int a1), some (.int a2), some (.int a3), some (.int x381), none, none, none, none, none, none], [])) (h1 := zHp I) (fun n => rfl) (fun hc => ?_) (fun hc => ?_)
    · rw [if_pos hc] at hf
      cases hf
      exact zEv_ret 2 (fun n => rfl)
    · rw [if_neg hc] at hf
      obtain ⟨x383, hx, hf⟩ := Option.bind_eq_some_iff.mp hf
      refine zEv_call 3 (N := 114) (vs := [.int a1, .int a0]) (v1 := some (.long x383)) (h1 := zHp I) (L := [some (.ref 1), some (.int a0), some (.int a1), some (.int a2), some (.int a3), some (.int x381), none, none, none, none, none, none]) (rest := []) (pc := 60) (fun n => rfl) (s_BM_power hx d (by omega)) rfl rfl ?_
      show zEv _ _ _ (60, [some (.ref 1), some (.int a0), some (.int a1), some (.int a2), some (.int a3), some (.int x381), none, none, none, none, none, none], [.long x383]) _ _ _
      obtain ⟨x384, hx, hf⟩ := Option.bind_eq_some_iff.mp hf
      refine zEv_call 7 (N := 114) (vs := [.int (a1 - 1), .int a0]) (v1 := some (.long x384)) (h1 := zHp I) (L := [some (.ref 1), some (.int a0), some (.int a1), some (.int a2), some (.int a3), some (.int x381), some (.long x383), none, none, none, none, none]) (rest := [.long x383]) (pc := 71) (fun n => rfl) (s_BM_power hx d (by omega)) rfl rfl ?_
      show zEv _ _ _ (71, [some (.ref 1), some (.int a0), some (.int a1), some (.int a2), some (.int a3), some (.int x381), some (.long x383), none, none, none, none, none], [.long x384, .long x383]) _ _ _
      obtain ⟨x386, hm_m385, hf⟩ := Option.bind_eq_some_iff.mp hf
      have hJ_m385 : zEv none (d + 1) 103 (86, [some (.ref 1), none, none, none, some (.int a3), none, some (.long x383), none, some (.long x386), none, none, none], []) (zHp I) (some (.long r)) (zHp I) := by
        obtain ⟨x388, hx, hf⟩ := Option.bind_eq_some_iff.mp hf
        refine zEv_call 4 (N := 115) (vs := [.long x386, .long x383]) (v1 := some (.long x388)) (h1 := zHp I) (L := [some (.ref 1), none, none, none, some (.int a3), none, some (.long x383), none, some (.long x386), none, none, none]) (rest := [.long 1]) (pc := 94) (fun n => rfl) (s_BM_commonDivisor hx d (by omega)) rfl rfl ?_
        show zEv _ _ _ (94, [some (.ref 1), none, none, none, some (.int a3), none, some (.long x383), none, some (.long x386), none, none, none], [.long x388, .long 1]) _ _ _
        obtain ⟨x390, hm_m389, hf⟩ := Option.bind_eq_some_iff.mp hf
        have hJ_m389 : zEv none (d + 1) 103 (111, [some (.ref 1), none, none, none, none, none, none, none, none, none, some (.long (if x388 < 1 then 1 else x388)), none], [.long x390]) (zHp I) (some (.long r)) (zHp I) := by
          obtain ⟨hc, hf⟩ := zGd_inv hf
          refine zEv_gd 2 (c := ¬ (if x388 < 1 then 1 else x388) = 0) (f1 := (114, [some (.ref 1), none, none, none, none, none, none, none, none, none, some (.long (if x388 < 1 then 1 else x388)), none], [.long (x390 / (if x388 < 1 then 1 else x388))])) (h1 := zHp I) (fun n => rfl) hc ?_
          cases hf
          exact zEv_ret 1 (fun n => rfl)
        clear hf
        refine zEv_if 4 (c := a3 = 0) (f1 := (104, [some (.ref 1), none, none, none, some (.int a3), none, some (.long x383), none, some (.long x386), none, some (.long (if x388 < 1 then 1 else x388)), none], [])) (f2 := (109, [some (.ref 1), none, none, none, some (.int a3), none, some (.long x383), none, some (.long x386), none, some (.long (if x388 < 1 then 1 else x388)), none], [])) (h1 := zHp I) (fun n => rfl) (fun hc => ?_) (fun hc => ?_)
        · rw [if_pos hc] at hm_m389
          obtain rfl := Option.some.inj hm_m389
          refine zEv_go 2 (f1 := (111, [some (.ref 1), none, none, none, some (.int a3), none, some (.long x383), none, some (.long x386), none, some (.long (if x388 < 1 then 1 else x388)), none], [.long x386])) (h1 := zHp I) (fun n => rfl) ?_
          exact zEv_weak (L := [some (.ref 1), none, none, none, none, none, none, none, none, none, some (.long (if x388 < 1 then 1 else x388)), none]) (by exact ⟨rfl, ⟨rfl, ⟨rfl, ⟨rfl, ⟨rfl, ⟨rfl, ⟨rfl, ⟨rfl, ⟨rfl, ⟨rfl, ⟨rfl, ⟨rfl, trivial⟩⟩⟩⟩⟩⟩⟩⟩⟩⟩⟩⟩) hJ_m389
        · rw [if_neg hc] at hm_m389
          obtain rfl := Option.some.inj hm_m389
          refine zEv_go 1 (f1 := (111, [some (.ref 1), none, none, none, some (.int a3), none, some (.long x383), none, some (.long x386), none, some (.long (if x388 < 1 then 1 else x388)), none], [.long x383])) (h1 := zHp I) (fun n => rfl) ?_
          exact zEv_weak (L := [some (.ref 1), none, none, none, none, none, none, none, none, none, some (.long (if x388 < 1 then 1 else x388)), none]) (by exact ⟨rfl, ⟨rfl, ⟨rfl, ⟨rfl, ⟨rfl, ⟨rfl, ⟨rfl, ⟨rfl, ⟨rfl, ⟨rfl, ⟨rfl, ⟨rfl, trivial⟩⟩⟩⟩⟩⟩⟩⟩⟩⟩⟩⟩) hJ_m389
      clear hf
      refine zEv_if 5 (c := a2 = 1) (f1 := (79, [some (.ref 1), some (.int a0), some (.int a1), some (.int a2), some (.int a3), some (.int x381), some (.long x383), none, some (.long (x383 - x384)), none, none, none], [])) (f2 := (86, [some (.ref 1), some (.int a0), some (.int a1), some (.int a2), some (.int a3), some (.int x381), some (.long x383), none, some (.long (x383 - x384)), none, none, none], [])) (h1 := zHp I) (fun n => rfl) (fun hc => ?_) (fun hc => ?_)
      · rw [if_pos hc] at hm_m385
        obtain rfl := Option.some.inj hm_m385
        refine zEv_go 5 (f1 := (86, [some (.ref 1), some (.int a0), some (.int a1), some (.int a2), some (.int a3), some (.int x381), some (.long x383), none, some (.long ((x383 - x384) * (Int32.toInt64 a1))), none, none, none], [])) (h1 := zHp I) (fun n => rfl) ?_
        exact zEv_weak (L := [some (.ref 1), none, none, none, some (.int a3), none, some (.long x383), none, some (.long ((x383 - x384) * (Int32.toInt64 a1))), none, none, none]) (by exact ⟨rfl, ⟨rfl, ⟨rfl, ⟨rfl, ⟨rfl, ⟨rfl, ⟨rfl, ⟨rfl, ⟨rfl, ⟨rfl, ⟨rfl, ⟨rfl, trivial⟩⟩⟩⟩⟩⟩⟩⟩⟩⟩⟩⟩) hJ_m385
      · rw [if_neg hc] at hm_m385
        obtain rfl := Option.some.inj hm_m385
        exact zEv_weak (L := [some (.ref 1), none, none, none, some (.int a3), none, some (.long x383), none, some (.long (x383 - x384)), none, none, none]) (by exact ⟨rfl, ⟨rfl, ⟨rfl, ⟨rfl, ⟨rfl, ⟨rfl, ⟨rfl, ⟨rfl, ⟨rfl, ⟨rfl, ⟨rfl, ⟨rfl, trivial⟩⟩⟩⟩⟩⟩⟩⟩⟩⟩⟩⟩) hJ_m385
  clear hf
  refine zEv_if 1 (c := x376 = 0) (f1 := (43, [some (.ref 1), some (.int a0), some (.int a1), some (.int a2), some (.int a3), none, none, none, none, none, none, none], [])) (f2 := (10, [some (.ref 1), some (.int a0), some (.int a1), some (.int a2), some (.int a3), none, none, none, none, none, none, none], [])) (h1 := zHp I) (fun n => rfl) (fun hc => ?_) (fun hc => ?_)
  · rw [if_pos hc] at hm_m377
    obtain rfl := Option.some.inj hm_m377
    refine zEv_go 1 (f1 := (44, [some (.ref 1), some (.int a0), some (.int a1), some (.int a2), some (.int a3), none, none, none, none, none, none, none], [.int 0])) (h1 := zHp I) (fun n => rfl) ?_
    exact zEv_weak (L := [some (.ref 1), some (.int a0), some (.int a1), some (.int a2), some (.int a3), none, none, none, none, none, none, none]) (by exact ⟨rfl, ⟨rfl, ⟨rfl, ⟨rfl, ⟨rfl, ⟨rfl, ⟨rfl, ⟨rfl, ⟨rfl, ⟨rfl, ⟨rfl, ⟨rfl, trivial⟩⟩⟩⟩⟩⟩⟩⟩⟩⟩⟩⟩) hJ_m377
  · rw [if_neg hc] at hm_m377
    obtain ⟨x378, hx, hm_m377⟩ := Option.bind_eq_some_iff.mp hm_m377
    refine zEv_call 4 (N := 109) (vs := [.int a1, .int 1, .int 10]) (v1 := some (.int x378)) (h1 := zHp I) (L := [some (.ref 1), some (.int a0), some (.int a1), some (.int a2), some (.int a3), none, none, none, none, none, none, none]) (rest := []) (pc := 17) (fun n => rfl) (s_BM_isWithin hx d (by omega)) rfl rfl ?_
    show zEv _ _ _ (17, [some (.ref 1), some (.int a0), some (.int a1), some (.int a2), some (.int a3), none, none, none, none, none, none, none], [.int x378]) _ _ _
    refine zEv_if 1 (c := x378 = 0) (f1 := (43, [some (.ref 1), some (.int a0), some (.int a1), some (.int a2), some (.int a3), none, none, none, none, none, none, none], [])) (f2 := (20, [some (.ref 1), some (.int a0), some (.int a1), some (.int a2), some (.int a3), none, none, none, none, none, none, none], [])) (h1 := zHp I) (fun n => rfl) (fun hc => ?_) (fun hc => ?_)
    · rw [if_pos hc] at hm_m377
      obtain rfl := Option.some.inj hm_m377
      refine zEv_go 1 (f1 := (44, [some (.ref 1), some (.int a0), some (.int a1), some (.int a2), some (.int a3), none, none, none, none, none, none, none], [.int 0])) (h1 := zHp I) (fun n => rfl) ?_
      exact zEv_weak (L := [some (.ref 1), some (.int a0), some (.int a1), some (.int a2), some (.int a3), none, none, none, none, none, none, none]) (by exact ⟨rfl, ⟨rfl, ⟨rfl, ⟨rfl, ⟨rfl, ⟨rfl, ⟨rfl, ⟨rfl, ⟨rfl, ⟨rfl, ⟨rfl, ⟨rfl, trivial⟩⟩⟩⟩⟩⟩⟩⟩⟩⟩⟩⟩) hJ_m377
    · rw [if_neg hc] at hm_m377
      obtain ⟨x379, hx, hm_m377⟩ := Option.bind_eq_some_iff.mp hm_m377
      refine zEv_call 4 (N := 109) (vs := [.int a2, .int 0, .int 1]) (v1 := some (.int x379)) (h1 := zHp I) (L := [some (.ref 1), some (.int a0), some (.int a1), some (.int a2), some (.int a3), none, none, none, none, none, none, none]) (rest := []) (pc := 26) (fun n => rfl) (s_BM_isWithin hx d (by omega)) rfl rfl ?_
      show zEv _ _ _ (26, [some (.ref 1), some (.int a0), some (.int a1), some (.int a2), some (.int a3), none, none, none, none, none, none, none], [.int x379]) _ _ _
      refine zEv_if 1 (c := x379 = 0) (f1 := (43, [some (.ref 1), some (.int a0), some (.int a1), some (.int a2), some (.int a3), none, none, none, none, none, none, none], [])) (f2 := (29, [some (.ref 1), some (.int a0), some (.int a1), some (.int a2), some (.int a3), none, none, none, none, none, none, none], [])) (h1 := zHp I) (fun n => rfl) (fun hc => ?_) (fun hc => ?_)
      · rw [if_pos hc] at hm_m377
        obtain rfl := Option.some.inj hm_m377
        refine zEv_go 1 (f1 := (44, [some (.ref 1), some (.int a0), some (.int a1), some (.int a2), some (.int a3), none, none, none, none, none, none, none], [.int 0])) (h1 := zHp I) (fun n => rfl) ?_
        exact zEv_weak (L := [some (.ref 1), some (.int a0), some (.int a1), some (.int a2), some (.int a3), none, none, none, none, none, none, none]) (by exact ⟨rfl, ⟨rfl, ⟨rfl, ⟨rfl, ⟨rfl, ⟨rfl, ⟨rfl, ⟨rfl, ⟨rfl, ⟨rfl, ⟨rfl, ⟨rfl, trivial⟩⟩⟩⟩⟩⟩⟩⟩⟩⟩⟩⟩) hJ_m377
      · rw [if_neg hc] at hm_m377
        obtain ⟨x380, hx, hm_m377⟩ := Option.bind_eq_some_iff.mp hm_m377
        refine zEv_call 4 (N := 109) (vs := [.int a3, .int 0, .int 1]) (v1 := some (.int x380)) (h1 := zHp I) (L := [some (.ref 1), some (.int a0), some (.int a1), some (.int a2), some (.int a3), none, none, none, none, none, none, none]) (rest := []) (pc := 36) (fun n => rfl) (s_BM_isWithin hx d (by omega)) rfl rfl ?_
        show zEv _ _ _ (36, [some (.ref 1), some (.int a0), some (.int a1), some (.int a2), some (.int a3), none, none, none, none, none, none, none], [.int x380]) _ _ _
        refine zEv_if 1 (c := x380 = 0) (f1 := (43, [some (.ref 1), some (.int a0), some (.int a1), some (.int a2), some (.int a3), none, none, none, none, none, none, none], [])) (f2 := (39, [some (.ref 1), some (.int a0), some (.int a1), some (.int a2), some (.int a3), none, none, none, none, none, none, none], [])) (h1 := zHp I) (fun n => rfl) (fun hc => ?_) (fun hc => ?_)
        · rw [if_pos hc] at hm_m377
          obtain rfl := Option.some.inj hm_m377
          refine zEv_go 1 (f1 := (44, [some (.ref 1), some (.int a0), some (.int a1), some (.int a2), some (.int a3), none, none, none, none, none, none, none], [.int 0])) (h1 := zHp I) (fun n => rfl) ?_
          exact zEv_weak (L := [some (.ref 1), some (.int a0), some (.int a1), some (.int a2), some (.int a3), none, none, none, none, none, none, none]) (by exact ⟨rfl, ⟨rfl, ⟨rfl, ⟨rfl, ⟨rfl, ⟨rfl, ⟨rfl, ⟨rfl, ⟨rfl, ⟨rfl, ⟨rfl, ⟨rfl, trivial⟩⟩⟩⟩⟩⟩⟩⟩⟩⟩⟩⟩) hJ_m377
        · rw [if_neg hc] at hm_m377
          obtain rfl := Option.some.inj hm_m377
          refine zEv_go 2 (f1 := (44, [some (.ref 1), some (.int a0), some (.int a1), some (.int a2), some (.int a3), none, none, none, none, none, none, none], [.int 1])) (h1 := zHp I) (fun n => rfl) ?_
          exact zEv_weak (L := [some (.ref 1), some (.int a0), some (.int a1), some (.int a2), some (.int a3), none, none, none, none, none, none, none]) (by exact ⟨rfl, ⟨rfl, ⟨rfl, ⟨rfl, ⟨rfl, ⟨rfl, ⟨rfl, ⟨rfl, ⟨rfl, ⟨rfl, ⟨rfl, ⟨rfl, trivial⟩⟩⟩⟩⟩⟩⟩⟩⟩⟩⟩⟩) hJ_m377
def Co_actByLot  (a0 : Int32) (I : zI) : Option (Int32) :=
  if a0 = 3 then
    some 1
  else if a0 = 4 then
    some 1
  else if a0 = 5 then
    some 2
  else if a0 = 6 then
    some 3
  else if a0 = 7 then
    some 5
  else
    some 0
theorem s_Co_actByLot  {a0 : Int32} {I : zI} {r : Int32} (hf : Co_actByLot a0 I = some r) (d : Nat) (hd : 0 ≤ d) : zCall d 8 [.int a0] (zHp I) (some (.int r)) (zHp I) := by
  rw [Co_actByLot] at hf
  show zEv _ _ _ (0, [some (.int a0)], []) _ _ _
  refine zEv_go 1 (f1 := (1, [some (.int a0)], [.int a0])) (h1 := zHp I) (fun n => rfl) ?_
  by_cases hc0 : a0 = 3
  · rw [if_pos hc0] at hf
    refine zEv_tsk (off := 35) (t := 36) 3 (by rfl) hc0 (by decide) rfl rfl ?_
    cases hf
    exact zEv_ret 2 (fun n => rfl)
  rw [if_neg hc0] at hf
  by_cases hc1 : a0 = 4
  · rw [if_pos hc1] at hf
    refine zEv_tsk (off := 35) (t := 36) 4 (by rfl) hc1 (by decide) rfl rfl ?_
    cases hf
    exact zEv_ret 2 (fun n => rfl)
  rw [if_neg hc1] at hf
  by_cases hc2 : a0 = 5
  · rw [if_pos hc2] at hf
    refine zEv_tsk (off := 37) (t := 38) 5 (by rfl) hc2 (by decide) rfl rfl ?_
    cases hf
    exact zEv_ret 2 (fun n => rfl)
  rw [if_neg hc2] at hf
  by_cases hc3 : a0 = 6
  · rw [if_pos hc3] at hf
    refine zEv_tsk (off := 39) (t := 40) 6 (by rfl) hc3 (by decide) rfl rfl ?_
    cases hf
    exact zEv_ret 2 (fun n => rfl)
  rw [if_neg hc3] at hf
  by_cases hc4 : a0 = 7
  · rw [if_pos hc4] at hf
    refine zEv_tsk (off := 41) (t := 42) 7 (by rfl) hc4 (by decide) rfl rfl ?_
    cases hf
    exact zEv_ret 2 (fun n => rfl)
  rw [if_neg hc4] at hf
  have hn0 := zNt (k := 3) hc0 (by decide)
  have hn1 := zNt (k := 4) hc1 (by decide)
  have hn2 := zNt (k := 5) hc2 (by decide)
  have hn3 := zNt (k := 6) hc3 (by decide)
  have hn4 := zNt (k := 7) hc4 (by decide)
  refine zEv_tsd (t := 44) (by rfl) (by omega) rfl ?_
  cases hf
  exact zEv_ret 2 (fun n => rfl)
def Co_drawAct (n : Nat) (a0 : Int32) (a1 : Int32) (a2 : Int32) (I : zI) : Option (zI) :=
  if a1 = 6 then
    if (zRem a2 8) = 0 then
      (Co_actByLot a1 I).bind fun x397 =>
      (
        if x397 = 0 then
          some (zRem a2 10)
        else
          some (zRem a2 8) : Option (Int32)).bind fun x399 =>
      (Ga_whyNot_39 n x397 a0 x399 I).bind fun x400 =>
      if x400 = 0 then
        (Ga_carryOut_39 n x397 a0 x399 I).bind fun I401 =>
        some I401
      else
        some I
    else
      some I
  else
    (Co_actByLot a1 I).bind fun x402 =>
    (
      if x402 = 0 then
        some (zRem a2 10)
      else
        some (zRem a2 8) : Option (Int32)).bind fun x404 =>
    (Ga_whyNot_39 n x402 a0 x404 I).bind fun x405 =>
    if x405 = 0 then
      (Ga_carryOut_39 n x402 a0 x404 I).bind fun I406 =>
      some I406
    else
      some I
theorem s_Co_drawAct {n : Nat} {a0 : Int32} {a1 : Int32} {a2 : Int32} {I : zI} {I' : zI} (hf : Co_drawAct n a0 a1 a2 I = some I') (d : Nat) (hd : 4 ≤ d) : zCall d 7 [.ref 38, .int a0, .int a1, .int a2] (zHp I) (none) (zHp I') := by
  obtain ⟨d, rfl⟩ : ∃ e, d = e + 1 := ⟨d - 1, by omega⟩
  rw [Co_drawAct] at hf
  show zEv _ _ _ (0, [some (.ref 38), some (.int a0), some (.int a1), some (.int a2), none, none], []) _ _ _
  refine zEv_if 3 (c := a1 = 6) (f1 := (6, [some (.ref 38), some (.int a0), some (.int a1), some (.int a2), none, none], [])) (f2 := (14, [some (.ref 38), some (.int a0), some (.int a1), some (.int a2), none, none], [])) (h1 := zHp I) (fun n => rfl) (fun hc => ?_) (fun hc => ?_)
  · rw [if_pos hc] at hf
    refine zEv_if 4 (c := (zRem a2 8) = 0) (f1 := (14, [some (.ref 38), some (.int a0), some (.int a1), some (.int a2), none, none], [])) (f2 := (13, [some (.ref 38), some (.int a0), some (.int a1), some (.int a2), none, none], [])) (h1 := zHp I) (fun n => rfl) (fun hc => ?_) (fun hc => ?_)
    · rw [if_pos hc] at hf
      obtain ⟨x397, hx, hf⟩ := Option.bind_eq_some_iff.mp hf
      refine zEv_call 2 (N := 8) (vs := [.int a1]) (v1 := some (.int x397)) (h1 := zHp I) (L := [some (.ref 38), some (.int a0), some (.int a1), some (.int a2), none, none]) (rest := []) (pc := 18) (fun n => rfl) (s_Co_actByLot hx d (by omega)) rfl rfl ?_
      show zEv _ _ _ (18, [some (.ref 38), some (.int a0), some (.int a1), some (.int a2), none, none], [.int x397]) _ _ _
      obtain ⟨x399, hm_m398, hf⟩ := Option.bind_eq_some_iff.mp hf
      have hJ_m398 : zEv none (d + 1) 7 (36, [some (.ref 38), some (.int a0), none, none, some (.int x397), none], [.int x399]) (zHp I) (none) (zHp I') := by
        obtain ⟨x400, hx, hf⟩ := Option.bind_eq_some_iff.mp hf
        refine zEv_call 7 (N := 30) (vs := [.ref 39, .int x397, .int a0, .int x399]) (v1 := some (.int x400)) (h1 := zHp I) (L := [some (.ref 38), some (.int a0), none, none, some (.int x397), some (.int x399)]) (rest := []) (pc := 50) (fun n => rfl) (s_Ga_whyNot_39 hx d (by omega)) rfl rfl ?_
        show zEv _ _ _ (50, [some (.ref 38), some (.int a0), none, none, some (.int x397), some (.int x399)], [.int x400]) _ _ _
        refine zEv_if 1 (c := x400 = 0) (f1 := (53, [some (.ref 38), some (.int a0), none, none, some (.int x397), some (.int x399)], [])) (f2 := (65, [some (.ref 38), some (.int a0), none, none, some (.int x397), some (.int x399)], [])) (h1 := zHp I) (fun n => rfl) (fun hc => ?_) (fun hc => ?_)
        · rw [if_pos hc] at hf
          obtain ⟨I401, hx, hf⟩ := Option.bind_eq_some_iff.mp hf
          refine zEv_call 6 (N := 33) (vs := [.ref 39, .int x397, .int a0, .int x399]) (v1 := none) (h1 := zHp I401) (L := [some (.ref 38), some (.int a0), none, none, some (.int x397), some (.int x399)]) (rest := []) (pc := 65) (fun n => rfl) (s_Ga_carryOut_39 hx d (by omega)) rfl rfl ?_
          show zEv _ _ _ (65, [some (.ref 38), some (.int a0), none, none, some (.int x397), some (.int x399)], []) _ _ _
          cases hf
          exact zEv_ret 1 (fun n => rfl)
        · rw [if_neg hc] at hf
          cases hf
          exact zEv_ret 1 (fun n => rfl)
      clear hf
      refine zEv_if 3 (c := x397 = 0) (f1 := (25, [some (.ref 38), some (.int a0), some (.int a1), some (.int a2), some (.int x397), none], [])) (f2 := (32, [some (.ref 38), some (.int a0), some (.int a1), some (.int a2), some (.int x397), none], [])) (h1 := zHp I) (fun n => rfl) (fun hc => ?_) (fun hc => ?_)
      · rw [if_pos hc] at hm_m398
        obtain rfl := Option.some.inj hm_m398
        refine zEv_go 4 (f1 := (36, [some (.ref 38), some (.int a0), some (.int a1), some (.int a2), some (.int x397), none], [.int (zRem a2 10)])) (h1 := zHp I) (fun n => rfl) ?_
        exact zEv_weak (L := [some (.ref 38), some (.int a0), none, none, some (.int x397), none]) (by exact ⟨rfl, ⟨rfl, ⟨rfl, ⟨rfl, ⟨rfl, ⟨rfl, trivial⟩⟩⟩⟩⟩⟩) hJ_m398
      · rw [if_neg hc] at hm_m398
        obtain rfl := Option.some.inj hm_m398
        refine zEv_go 3 (f1 := (36, [some (.ref 38), some (.int a0), some (.int a1), some (.int a2), some (.int x397), none], [.int (zRem a2 8)])) (h1 := zHp I) (fun n => rfl) ?_
        exact zEv_weak (L := [some (.ref 38), some (.int a0), none, none, some (.int x397), none]) (by exact ⟨rfl, ⟨rfl, ⟨rfl, ⟨rfl, ⟨rfl, ⟨rfl, trivial⟩⟩⟩⟩⟩⟩) hJ_m398
    · rw [if_neg hc] at hf
      cases hf
      exact zEv_ret 1 (fun n => rfl)
  · rw [if_neg hc] at hf
    obtain ⟨x402, hx, hf⟩ := Option.bind_eq_some_iff.mp hf
    refine zEv_call 2 (N := 8) (vs := [.int a1]) (v1 := some (.int x402)) (h1 := zHp I) (L := [some (.ref 38), some (.int a0), some (.int a1), some (.int a2), none, none]) (rest := []) (pc := 18) (fun n => rfl) (s_Co_actByLot hx d (by omega)) rfl rfl ?_
    show zEv _ _ _ (18, [some (.ref 38), some (.int a0), some (.int a1), some (.int a2), none, none], [.int x402]) _ _ _
    obtain ⟨x404, hm_m403, hf⟩ := Option.bind_eq_some_iff.mp hf
    have hJ_m403 : zEv none (d + 1) 7 (36, [some (.ref 38), some (.int a0), none, none, some (.int x402), none], [.int x404]) (zHp I) (none) (zHp I') := by
      obtain ⟨x405, hx, hf⟩ := Option.bind_eq_some_iff.mp hf
      refine zEv_call 7 (N := 30) (vs := [.ref 39, .int x402, .int a0, .int x404]) (v1 := some (.int x405)) (h1 := zHp I) (L := [some (.ref 38), some (.int a0), none, none, some (.int x402), some (.int x404)]) (rest := []) (pc := 50) (fun n => rfl) (s_Ga_whyNot_39 hx d (by omega)) rfl rfl ?_
      show zEv _ _ _ (50, [some (.ref 38), some (.int a0), none, none, some (.int x402), some (.int x404)], [.int x405]) _ _ _
      refine zEv_if 1 (c := x405 = 0) (f1 := (53, [some (.ref 38), some (.int a0), none, none, some (.int x402), some (.int x404)], [])) (f2 := (65, [some (.ref 38), some (.int a0), none, none, some (.int x402), some (.int x404)], [])) (h1 := zHp I) (fun n => rfl) (fun hc => ?_) (fun hc => ?_)
      · rw [if_pos hc] at hf
        obtain ⟨I406, hx, hf⟩ := Option.bind_eq_some_iff.mp hf
        refine zEv_call 6 (N := 33) (vs := [.ref 39, .int x402, .int a0, .int x404]) (v1 := none) (h1 := zHp I406) (L := [some (.ref 38), some (.int a0), none, none, some (.int x402), some (.int x404)]) (rest := []) (pc := 65) (fun n => rfl) (s_Ga_carryOut_39 hx d (by omega)) rfl rfl ?_
        show zEv _ _ _ (65, [some (.ref 38), some (.int a0), none, none, some (.int x402), some (.int x404)], []) _ _ _
        cases hf
        exact zEv_ret 1 (fun n => rfl)
      · rw [if_neg hc] at hf
        cases hf
        exact zEv_ret 1 (fun n => rfl)
    clear hf
    refine zEv_if 3 (c := x402 = 0) (f1 := (25, [some (.ref 38), some (.int a0), some (.int a1), some (.int a2), some (.int x402), none], [])) (f2 := (32, [some (.ref 38), some (.int a0), some (.int a1), some (.int a2), some (.int x402), none], [])) (h1 := zHp I) (fun n => rfl) (fun hc => ?_) (fun hc => ?_)
    · rw [if_pos hc] at hm_m403
      obtain rfl := Option.some.inj hm_m403
      refine zEv_go 4 (f1 := (36, [some (.ref 38), some (.int a0), some (.int a1), some (.int a2), some (.int x402), none], [.int (zRem a2 10)])) (h1 := zHp I) (fun n => rfl) ?_
      exact zEv_weak (L := [some (.ref 38), some (.int a0), none, none, some (.int x402), none]) (by exact ⟨rfl, ⟨rfl, ⟨rfl, ⟨rfl, ⟨rfl, ⟨rfl, trivial⟩⟩⟩⟩⟩⟩) hJ_m403
    · rw [if_neg hc] at hm_m403
      obtain rfl := Option.some.inj hm_m403
      refine zEv_go 3 (f1 := (36, [some (.ref 38), some (.int a0), some (.int a1), some (.int a2), some (.int x402), none], [.int (zRem a2 8)])) (h1 := zHp I) (fun n => rfl) ?_
      exact zEv_weak (L := [some (.ref 38), some (.int a0), none, none, some (.int x402), none]) (by exact ⟨rfl, ⟨rfl, ⟨rfl, ⟨rfl, ⟨rfl, ⟨rfl, trivial⟩⟩⟩⟩⟩⟩) hJ_m403
