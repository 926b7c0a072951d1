def Wa_firstFrom_2_L15 : Nat → Int32 → Int32 → Int32 → Int32 → zI → Option (Int32)
  | 0, _, _, _, _, _ => none
  | n + 1, v4, v5, v6, v7, I =>
    if v7 ≤ 0 then
      some v4
    else
      (Ga_waysFrom_2 v5 I).bind fun x280 =>
      (Wa_startsOfWalks n (v6 &&& ((zShl 1 v5) ^^^ (-1))) v7 I).bind fun x286 =>
      (In_ntz (x280 &&& x286) I).bind fun x299 =>
      Wa_firstFrom_2_L15 n ((v4 * 10) + x299) x299 (v6 &&& ((zShl 1 v5) ^^^ (-1))) (v7 + (-1)) I
theorem s_Wa_firstFrom_2_L15 (d : Nat) (hd : 2 ≤ d) : ∀ (n : Nat) {v4 : Int32} {v5 : Int32} {v6 : Int32} {v7 : Int32} {I : zI} {y4 : Int32} {v : Option Value} {h' : zH}, Wa_firstFrom_2_L15 n v4 v5 v6 v7 I = some y4 → zEv none d 76 (75, [some (.ref 59), some (.ref 2), none, none, some (.int y4), none, none, none, none], []) (zHp I) v h' → zEv none d 76 (15, [some (.ref 59), some (.ref 2), none, none, some (.int v4), some (.int v5), some (.int v6), some (.int v7), none], []) (zHp I) v h' := by
  obtain ⟨d, rfl⟩ : ∃ e, d = e + 1 := ⟨d - 1, by omega⟩
  intro n
  induction n with
  | zero => intros; rename_i hf _; cases hf
  | succ n ih =>
    intro v4 v5 v6 v7 I y4 v h' hf kk
    rw [Wa_firstFrom_2_L15] at hf
    refine zEv_if 2 (c := v7 ≤ 0) (f1 := (75, [some (.ref 59), some (.ref 2), none, none, some (.int v4), some (.int v5), some (.int v6), some (.int v7), none], [])) (f2 := (20, [some (.ref 59), some (.ref 2), none, none, some (.int v4), some (.int v5), some (.int v6), some (.int v7), none], [])) (h1 := zHp I) (fun n => rfl) (fun hc => ?_) (fun hc => ?_)
    · rw [if_pos hc] at hf
      obtain rfl := Option.some.inj hf
      exact zEv_weak (L := [some (.ref 59), some (.ref 2), none, none, some (.int v4), none, none, none, none]) (by exact ⟨rfl, ⟨rfl, ⟨rfl, ⟨rfl, ⟨rfl, ⟨rfl, ⟨rfl, ⟨rfl, ⟨rfl, trivial⟩⟩⟩⟩⟩⟩⟩⟩⟩) kk
    · rw [if_neg hc] at hf
      obtain ⟨x280, hx, hf⟩ := Option.bind_eq_some_iff.mp hf
      refine zEv_call 13 (N := 11) (vs := [.ref 2, .int v5]) (v1 := some (.int x280)) (h1 := zHp I) (L := [some (.ref 59), some (.ref 2), none, none, some (.int v4), some (.int v5), some (.int (v6 &&& ((zShl 1 v5) ^^^ (-1)))), some (.int v7), none]) (rest := []) (pc := 41) (fun n => rfl) (s_Ga_waysFrom_2 hx d (by omega)) rfl rfl ?_
      show zEv _ _ _ (41, [some (.ref 59), some (.ref 2), none, none, some (.int v4), some (.int v5), some (.int (v6 &&& ((zShl 1 v5) ^^^ (-1)))), some (.int v7), none], [.int x280]) _ _ _
      obtain ⟨x286, hx, hf⟩ := Option.bind_eq_some_iff.mp hf
      refine zEv_call 4 (N := 77) (vs := [.ref 59, .int (v6 &&& ((zShl 1 v5) ^^^ (-1))), .int v7]) (v1 := some (.int x286)) (h1 := zHp I) (L := [some (.ref 59), some (.ref 2), none, none, some (.int v4), some (.int v5), some (.int (v6 &&& ((zShl 1 v5) ^^^ (-1)))), some (.int v7), none]) (rest := [.int x280]) (pc := 49) (fun n => rfl) (s_Wa_startsOfWalks hx d (by omega)) rfl rfl ?_
      show zEv _ _ _ (49, [some (.ref 59), some (.ref 2), none, none, some (.int v4), some (.int v5), some (.int (v6 &&& ((zShl 1 v5) ^^^ (-1)))), some (.int v7), none], [.int x286, .int x280]) _ _ _
      obtain ⟨x299, hx, hf⟩ := Option.bind_eq_some_iff.mp hf
      refine zEv_call 4 (N := 195) (vs := [.int (x280 &&& x286)]) (v1 := some (.int x299)) (h1 := zHp I) (L := [some (.ref 59), some (.ref 2), none, none, some (.int v4), some (.int v5), some (.int (v6 &&& ((zShl 1 v5) ^^^ (-1)))), some (.int v7), some (.int (x280 &&& x286))]) (rest := []) (pc := 57) (fun n => rfl) (s_In_ntz hx d (by omega)) rfl rfl ?_
      show zEv _ _ _ (57, [some (.ref 59), some (.ref 2), none, none, some (.int v4), some (.int v5), some (.int (v6 &&& ((zShl 1 v5) ^^^ (-1)))), some (.int v7), some (.int (x280 &&& x286))], [.int x299]) _ _ _
      refine zEv_go 9 (f1 := (15, [some (.ref 59), some (.ref 2), none, none, some (.int ((v4 * 10) + x299)), some (.int x299), some (.int (v6 &&& ((zShl 1 v5) ^^^ (-1)))), some (.int (v7 + (-1))), some (.int (x280 &&& x286))], [])) (h1 := zHp I) (fun n => rfl) ?_
      refine zEv_weak (L := [some (.ref 59), some (.ref 2), none, none, some (.int ((v4 * 10) + x299)), some (.int x299), some (.int (v6 &&& ((zShl 1 v5) ^^^ (-1)))), some (.int (v7 + (-1))), none]) (by exact ⟨rfl, ⟨rfl, ⟨rfl, ⟨rfl, ⟨rfl, ⟨rfl, ⟨rfl, ⟨rfl, ⟨rfl, trivial⟩⟩⟩⟩⟩⟩⟩⟩⟩) ?_
      exact ih hf kk
def Wa_firstFrom_2 (n : Nat) (a0 : Int32) (a1 : Int32) (I : zI) : Option (Int32) :=
  (Wa_firstFrom_2_L15 n 0 a0 (I 59 1) a1 I).bind fun x300 =>
  some x300
theorem s_Wa_firstFrom_2 {n : Nat} {a0 : Int32} {a1 : Int32} {I : zI} {r : Int32} (hf : Wa_firstFrom_2 n a0 a1 I = some r) (d : Nat) (hd : 2 ≤ d) : zCall d 76 [.ref 59, .ref 2, .int a0, .int a1] (zHp I) (some (.int r)) (zHp I) := by
  obtain ⟨d, rfl⟩ : ∃ e, d = e + 1 := ⟨d - 1, by omega⟩
  rw [Wa_firstFrom_2] at hf
  show zEv _ _ _ (0, [some (.ref 59), some (.ref 2), some (.int a0), some (.int a1), none, none, none, none, none], []) _ _ _
  obtain ⟨x300, hx, hf⟩ := Option.bind_eq_some_iff.mp hf
  refine zEv_go 9 (f1 := (15, [some (.ref 59), some (.ref 2), some (.int a0), some (.int a1), some (.int 0), some (.int a0), some (.int (I 59 1)), some (.int a1), none], [])) (h1 := zHp I) (fun n => rfl) ?_
  refine zEv_weak (L := [some (.ref 59), some (.ref 2), none, none, some (.int 0), some (.int a0), some (.int (I 59 1)), some (.int a1), none]) (by exact ⟨rfl, ⟨rfl, ⟨rfl, ⟨rfl, ⟨rfl, ⟨rfl, ⟨rfl, ⟨rfl, ⟨rfl, trivial⟩⟩⟩⟩⟩⟩⟩⟩⟩) (s_Wa_firstFrom_2_L15 (d + 1) (by omega) n hx ?_)
  cases hf
  exact zEv_ret 2 (fun n => rfl)
def BM_walk (n : Nat) (a0 : Int32) (a1 : Int32) (I : zI) : Option (Int32 × zI) :=
  (BM_isBench a0 I).bind fun x253 =>
  if x253 = 0 then
    some ((-1), I)
  else
    (BM_isWithin a1 0 1 I).bind fun x254 =>
    if x254 = 0 then
      some ((-2), I)
    else
      (Wa_explore_2 n a0 I).bind fun I272 =>
      (Wa_longestFrom n a0 I272).bind fun x279 =>
      if a1 = 0 then
        some (x279, I272)
      else
        (Wa_firstFrom_2 n a0 x279 I272).bind fun x301 =>
        some (x301, I272)
theorem s_BM_walk {n : Nat} {a0 : Int32} {a1 : Int32} {I : zI} {r : Int32} {I' : zI} (hf : BM_walk n a0 a1 I = some (r, I')) (d : Nat) (hd : 4 ≤ d) : zCall d 96 [.ref 1, .int a0, .int a1] (zHp I) (some (.int r)) (zHp I') := by
  obtain ⟨d, rfl⟩ : ∃ e, d = e + 1 := ⟨d - 1, by omega⟩
  rw [BM_walk] at hf
  show zEv _ _ _ (0, [some (.ref 1), some (.int a0), some (.int a1), none], []) _ _ _
  obtain ⟨x253, hx, hf⟩ := Option.bind_eq_some_iff.mp hf
  refine zEv_call 2 (N := 110) (vs := [.int a0]) (v1 := some (.int x253)) (h1 := zHp I) (L := [some (.ref 1), some (.int a0), some (.int a1), none]) (rest := []) (pc := 4) (fun n => rfl) (s_BM_isBench hx d (by omega)) rfl rfl ?_
  show zEv _ _ _ (4, [some (.ref 1), some (.int a0), some (.int a1), none], [.int x253]) _ _ _
  refine zEv_if 1 (c := x253 = 0) (f1 := (7, [some (.ref 1), some (.int a0), some (.int a1), none], [])) (f2 := (9, [some (.ref 1), some (.int a0), some (.int a1), none], [])) (h1 := zHp I) (fun n => rfl) (fun hc => ?_) (fun hc => ?_)
  · rw [if_pos hc] at hf
    cases hf
    exact zEv_ret 2 (fun n => rfl)
  · rw [if_neg hc] at hf
    obtain ⟨x254, hx, hf⟩ := Option.bind_eq_some_iff.mp hf
    refine zEv_call 4 (N := 109) (vs := [.int a1, .int 0, .int 1]) (v1 := some (.int x254)) (h1 := zHp I) (L := [some (.ref 1), some (.int a0), some (.int a1), none]) (rest := []) (pc := 15) (fun n => rfl) (s_BM_isWithin hx d (by omega)) rfl rfl ?_
    show zEv _ _ _ (15, [some (.ref 1), some (.int a0), some (.int a1), none], [.int x254]) _ _ _
    refine zEv_if 1 (c := x254 = 0) (f1 := (18, [some (.ref 1), some (.int a0), some (.int a1), none], [])) (f2 := (21, [some (.ref 1), some (.int a0), some (.int a1), none], [])) (h1 := zHp I) (fun n => rfl) (fun hc => ?_) (fun hc => ?_)
    · rw [if_pos hc] at hf
      cases hf
      exact zEv_ret 2 (fun n => rfl)
    · rw [if_neg hc] at hf
      obtain ⟨I272, hx, hf⟩ := Option.bind_eq_some_iff.mp hf
      refine zEv_call 6 (N := 73) (vs := [.ref 59, .ref 2, .int a0]) (v1 := none) (h1 := zHp I272) (L := [some (.ref 1), some (.int a0), some (.int a1), none]) (rest := []) (pc := 33) (fun n => rfl) (s_Wa_explore_2 hx d (by omega)) rfl rfl ?_
      show zEv _ _ _ (33, [some (.ref 1), some (.int a0), some (.int a1), none], []) _ _ _
      obtain ⟨x279, hx, hf⟩ := Option.bind_eq_some_iff.mp hf
      refine zEv_call 4 (N := 75) (vs := [.ref 59, .int a0]) (v1 := some (.int x279)) (h1 := zHp I272) (L := [some (.ref 1), some (.int a0), some (.int a1), none]) (rest := []) (pc := 41) (fun n => rfl) (s_Wa_longestFrom hx d (by omega)) rfl rfl ?_
      show zEv _ _ _ (41, [some (.ref 1), some (.int a0), some (.int a1), none], [.int x279]) _ _ _
      refine zEv_if 3 (c := a1 = 0) (f1 := (46, [some (.ref 1), some (.int a0), some (.int a1), some (.int x279)], [])) (f2 := (50, [some (.ref 1), some (.int a0), some (.int a1), some (.int x279)], [])) (h1 := zHp I272) (fun n => rfl) (fun hc => ?_) (fun hc => ?_)
      · rw [if_pos hc] at hf
        cases hf
        exact zEv_ret 3 (fun n => rfl)
      · rw [if_neg hc] at hf
        obtain ⟨x301, hx, hf⟩ := Option.bind_eq_some_iff.mp hf
        refine zEv_call 7 (N := 76) (vs := [.ref 59, .ref 2, .int a0, .int x279]) (v1 := some (.int x301)) (h1 := zHp I272) (L := [some (.ref 1), some (.int a0), some (.int a1), some (.int x279)]) (rest := []) (pc := 63) (fun n => rfl) (s_Wa_firstFrom_2 hx d (by omega)) rfl rfl ?_
        show zEv _ _ _ (63, [some (.ref 1), some (.int a0), some (.int a1), some (.int x279)], [.int x301]) _ _ _
        cases hf
        exact zEv_ret 1 (fun n => rfl)
def Rw_put_63  (a0 : Int32) (a1 : Int32) (I : zI) : Option (zI) :=
  if a0 < 0 then
    some I
  else
    if 7 ≤ a0 then
      some I
    else
      if zIn a0 7 then
        some (zUp I 64 (Int32.toNatClampNeg a0) a1)
      else none
theorem s_Rw_put_63  {a0 : Int32} {a1 : Int32} {I : zI} {I' : zI} (hf : Rw_put_63 a0 a1 I = some I') (d : Nat) (hd : 0 ≤ d) : zCall d 61 [.ref 63, .int a0, .int a1] (zHp I) (none) (zHp I') := by
  rw [Rw_put_63] at hf
  show zEv _ _ _ (0, [some (.ref 63), some (.int a0), some (.int a1)], []) _ _ _
  refine zEv_if 2 (c := a0 < 0) (f1 := (20, [some (.ref 63), some (.int a0), some (.int a1)], [])) (f2 := (4, [some (.ref 63), some (.int a0), some (.int a1)], [])) (h1 := zHp I) (fun n => rfl) (fun hc => ?_) (fun hc => ?_)
  · rw [if_pos hc] at hf
    cases hf
    exact zEv_ret 1 (fun n => rfl)
  · rw [if_neg hc] at hf
    refine zEv_if 5 (c := 7 ≤ a0) (f1 := (20, [some (.ref 63), some (.int a0), some (.int a1)], [])) (f2 := (13, [some (.ref 63), some (.int a0), some (.int a1)], [])) (h1 := zHp I) (fun n => rfl) (fun hc => ?_) (fun hc => ?_)
    · rw [if_pos hc] at hf
      cases hf
      exact zEv_ret 1 (fun n => rfl)
    · rw [if_neg hc] at hf
      obtain ⟨hc, hf⟩ := zGd_inv hf
      refine zEv_gd 5 (c := zIn a0 7) (f1 := (20, [some (.ref 63), some (.int a0), some (.int a1)], [])) (h1 := zHp (zUp I 64 (Int32.toNatClampNeg a0) a1)) (fun n => rfl) hc ?_
      cases hf
      exact zEv_ret 1 (fun n => rfl)
def Od_read_L14 : Nat → Int32 → Int32 → Int32 → zI → Option (Int32 × Int32 × zI)
  | 0, _, _, _, _ => none
  | n + 1, v2, v3, v4, I =>
    if v4 < 0 then
      some (v2, v3, I)
    else
      (Rw_put_63 v4 (zRem v2 10) I).bind fun I302 =>
      Od_read_L14 n (v2 / 10) (v3 ||| (zShl 1 (zRem v2 10))) (v4 + (-1)) I302
theorem s_Od_read_L14 (d : Nat) (hd : 1 ≤ d) : ∀ (n : Nat) {v2 : Int32} {v3 : Int32} {v4 : Int32} {I : zI} {y2 : Int32} {y3 : Int32} {I' : zI} {v : Option Value} {h' : zH}, Od_read_L14 n v2 v3 v4 I = some (y2, y3, I') → zEv none d 41 (52, [some (.ref 62), none, some (.int y2), some (.int y3), none], []) (zHp I') v h' → zEv none d 41 (14, [some (.ref 62), none, some (.int v2), some (.int v3), some (.int v4)], []) (zHp I) v h' := by
  obtain ⟨d, rfl⟩ : ∃ e, d = e + 1 := ⟨d - 1, by omega⟩
  intro n
  induction n with
  | zero => intros; rename_i hf _; cases hf
  | succ n ih =>
    intro v2 v3 v4 I y2 y3 I' v h' hf kk
    rw [Od_read_L14] at hf
    refine zEv_if 2 (c := v4 < 0) (f1 := (52, [some (.ref 62), none, some (.int v2), some (.int v3), some (.int v4)], [])) (f2 := (19, [some (.ref 62), none, some (.int v2), some (.int v3), some (.int v4)], [])) (h1 := zHp I) (fun n => rfl) (fun hc => ?_) (fun hc => ?_)
    · rw [if_pos hc] at hf
      have hq0 := Option.some.inj hf
      obtain ⟨he0, hq1⟩ := Prod.mk.inj hq0
      subst he0
      obtain ⟨he1, hq2⟩ := Prod.mk.inj hq1
      subst he1
      subst hq2
      exact zEv_weak (L := [some (.ref 62), none, some (.int v2), some (.int v3), none]) (by exact ⟨rfl, ⟨rfl, ⟨rfl, ⟨rfl, ⟨rfl, trivial⟩⟩⟩⟩⟩) kk
    · rw [if_neg hc] at hf
      obtain ⟨I302, hx, hf⟩ := Option.bind_eq_some_iff.mp hf
      refine zEv_call 7 (N := 61) (vs := [.ref 63, .int v4, .int (zRem v2 10)]) (v1 := none) (h1 := zHp I302) (L := [some (.ref 62), none, some (.int v2), some (.int v3), some (.int v4)]) (rest := []) (pc := 32) (fun n => rfl) (s_Rw_put_63 hx d (by omega)) rfl rfl ?_
      show zEv _ _ _ (32, [some (.ref 62), none, some (.int v2), some (.int v3), some (.int v4)], []) _ _ _
      refine zEv_go 14 (f1 := (14, [some (.ref 62), none, some (.int (v2 / 10)), some (.int (v3 ||| (zShl 1 (zRem v2 10)))), some (.int (v4 + (-1)))], [])) (h1 := zHp I302) (fun n => rfl) ?_
      refine zEv_weak (L := [some (.ref 62), none, some (.int (v2 / 10)), some (.int (v3 ||| (zShl 1 (zRem v2 10)))), some (.int (v4 + (-1)))]) (by exact ⟨rfl, ⟨rfl, ⟨rfl, ⟨rfl, ⟨rfl, trivial⟩⟩⟩⟩⟩) ?_
      exact ih hf kk
def Od_read (n : Nat) (a0 : Int32) (I : zI) : Option (Int32 × zI) :=
  if 0 ≤ a0 then
    (Od_read_L14 n a0 0 6 I).bind fun (x303, x304, I305) =>
    if x303 = 0 then
      if x304 = 127 then
        some (1, I305)
      else
        some (0, I305)
    else
      some (0, I305)
  else
    some (0, I)
theorem s_Od_read {n : Nat} {a0 : Int32} {I : zI} {r : Int32} {I' : zI} (hf : Od_read n a0 I = some (r, I')) (d : Nat) (hd : 1 ≤ d) : zCall d 41 [.ref 62, .int a0] (zHp I) (some (.int r)) (zHp I') := by
  obtain ⟨d, rfl⟩ : ∃ e, d = e + 1 := ⟨d - 1, by omega⟩
  rw [Od_read] at hf
  show zEv _ _ _ (0, [some (.ref 62), some (.int a0), none, none, none], []) _ _ _
  refine zEv_if 2 (c := 0 ≤ a0) (f1 := (6, [some (.ref 62), some (.int a0), none, none, none], [])) (f2 := (4, [some (.ref 62), some (.int a0), none, none, none], [])) (h1 := zHp I) (fun n => rfl) (fun hc => ?_) (fun hc => ?_)
  · rw [if_pos hc] at hf
    obtain ⟨⟨x303, x304, I305⟩, hx, hf⟩ := Option.bind_eq_some_iff.mp hf
    dsimp only at hf
    refine zEv_go 6 (f1 := (14, [some (.ref 62), some (.int a0), some (.int a0), some (.int 0), some (.int 6)], [])) (h1 := zHp I) (fun n => rfl) ?_
    refine zEv_weak (L := [some (.ref 62), none, some (.int a0), some (.int 0), some (.int 6)]) (by exact ⟨rfl, ⟨rfl, ⟨rfl, ⟨rfl, ⟨rfl, trivial⟩⟩⟩⟩⟩) (s_Od_read_L14 (d + 1) (by omega) n hx ?_)
    refine zEv_if 2 (c := x303 = 0) (f1 := (56, [some (.ref 62), none, some (.int x303), some (.int x304), none], [])) (f2 := (66, [some (.ref 62), none, some (.int x303), some (.int x304), none], [])) (h1 := zHp I305) (fun n => rfl) (fun hc => ?_) (fun hc => ?_)
    · rw [if_pos hc] at hf
      refine zEv_if 3 (c := x304 = 127) (f1 := (62, [some (.ref 62), none, some (.int x303), some (.int x304), none], [])) (f2 := (66, [some (.ref 62), none, some (.int x303), some (.int x304), none], [])) (h1 := zHp I305) (fun n => rfl) (fun hc => ?_) (fun hc => ?_)
      · rw [if_pos hc] at hf
        cases hf
        exact zEv_ret 3 (fun n => rfl)
      · rw [if_neg hc] at hf
        cases hf
        exact zEv_ret 2 (fun n => rfl)
    · rw [if_neg hc] at hf
      cases hf
      exact zEv_ret 2 (fun n => rfl)
  · rw [if_neg hc] at hf
    cases hf
    exact zEv_ret 2 (fun n => rfl)
def Rw_at_63  (a0 : Int32) (I : zI) : Option (Int32) :=
  if a0 < 0 then
    some (-6)
  else
    if 7 ≤ a0 then
      some (-6)
    else
      if zIn a0 7 then
        some (I 64 (Int32.toNatClampNeg a0))
      else none
theorem s_Rw_at_63  {a0 : Int32} {I : zI} {r : Int32} (hf : Rw_at_63 a0 I = some r) (d : Nat) (hd : 0 ≤ d) : zCall d 60 [.ref 63, .int a0] (zHp I) (some (.int r)) (zHp I) := by
  rw [Rw_at_63] at hf
  show zEv _ _ _ (0, [some (.ref 63), some (.int a0)], []) _ _ _
  refine zEv_if 2 (c := a0 < 0) (f1 := (22, [some (.ref 63), some (.int a0)], [])) (f2 := (4, [some (.ref 63), some (.int a0)], [])) (h1 := zHp I) (fun n => rfl) (fun hc => ?_) (fun hc => ?_)
  · rw [if_pos hc] at hf
    cases hf
    exact zEv_ret 2 (fun n => rfl)
  · rw [if_neg hc] at hf
    refine zEv_if 5 (c := 7 ≤ a0) (f1 := (22, [some (.ref 63), some (.int a0)], [])) (f2 := (13, [some (.ref 63), some (.int a0)], [])) (h1 := zHp I) (fun n => rfl) (fun hc => ?_) (fun hc => ?_)
    · rw [if_pos hc] at hf
      cases hf
      exact zEv_ret 2 (fun n => rfl)
    · rw [if_neg hc] at hf
      obtain ⟨hc, hf⟩ := zGd_inv hf
      refine zEv_gd 4 (c := zIn a0 7) (f1 := (19, [some (.ref 63), some (.int a0)], [.int (I 64 (Int32.toNatClampNeg a0))])) (h1 := zHp I) (fun n => rfl) hc ?_
      cases hf
      exact zEv_ret 2 (fun n => rfl)
def Od_sittingsLeft_L21 : Nat → Int32 → Int32 → Int32 → Int32 → Int32 → Int32 → zI → Option (Int32 × Int32)
  | 0, _, _, _, _, _, _, _ => none
  | n + 1, v1, v2, v3, v4, v5, v6, I =>
    if 7 ≤ v6 then
      some (v2, v4)
    else
      (BM_has v2 v5 I).bind fun x309 =>
      if x309 = 0 then
        (Rw_at_63 v5 I).bind fun x310 =>
        Od_sittingsLeft_L21 n v1 (v2 ||| (zShl 1 v5)) v3 (v4 + 1) x310 (v6 + 1) I
      else
        some (v2, v4)
theorem s_Od_sittingsLeft_L21 (d : Nat) (hd : 1 ≤ d) : ∀ (n : Nat) {v1 : Int32} {v2 : Int32} {v3 : Int32} {v4 : Int32} {v5 : Int32} {v6 : Int32} {I : zI} {y2 : Int32} {y4 : Int32} {v : Option Value} {h' : zH}, Od_sittingsLeft_L21 n v1 v2 v3 v4 v5 v6 I = some (y2, y4) → zEv none d 42 (64, [some (.ref 62), some (.int v1), some (.int y2), some (.int v3), some (.int y4), none, none], []) (zHp I) v h' → zEv none d 42 (21, [some (.ref 62), some (.int v1), some (.int v2), some (.int v3), some (.int v4), some (.int v5), some (.int v6)], []) (zHp I) v h' := by
  obtain ⟨d, rfl⟩ : ∃ e, d = e + 1 := ⟨d - 1, by omega⟩
  intro n
  induction n with
  | zero => intros; rename_i hf _; cases hf
  | succ n ih =>
    intro v1 v2 v3 v4 v5 v6 I y2 y4 v h' hf kk
    rw [Od_sittingsLeft_L21] at hf
    refine zEv_if 3 (c := 7 ≤ v6) (f1 := (64, [some (.ref 62), some (.int v1), some (.int v2), some (.int v3), some (.int v4), some (.int v5), some (.int v6)], [])) (f2 := (28, [some (.ref 62), some (.int v1), some (.int v2), some (.int v3), some (.int v4), some (.int v5), some (.int v6)], [])) (h1 := zHp I) (fun n => rfl) (fun hc => ?_) (fun hc => ?_)
    · rw [if_pos hc] at hf
      have hq0 := Option.some.inj hf
      obtain ⟨he0, hq1⟩ := Prod.mk.inj hq0
      subst he0
      subst hq1
      exact zEv_weak (L := [some (.ref 62), some (.int v1), some (.int v2), some (.int v3), some (.int v4), none, none]) (by exact ⟨rfl, ⟨rfl, ⟨rfl, ⟨rfl, ⟨rfl, ⟨rfl, ⟨rfl, trivial⟩⟩⟩⟩⟩⟩⟩) kk
    · rw [if_neg hc] at hf
      obtain ⟨x309, hx, hf⟩ := Option.bind_eq_some_iff.mp hf
      refine zEv_call 3 (N := 113) (vs := [.int v2, .int v5]) (v1 := some (.int x309)) (h1 := zHp I) (L := [some (.ref 62), some (.int v1), some (.int v2), some (.int v3), some (.int v4), some (.int v5), some (.int v6)]) (rest := []) (pc := 34) (fun n => rfl) (s_BM_has hx d (by omega)) rfl rfl ?_
      show zEv _ _ _ (34, [some (.ref 62), some (.int v1), some (.int v2), some (.int v3), some (.int v4), some (.int v5), some (.int v6)], [.int x309]) _ _ _
      refine zEv_if 1 (c := x309 = 0) (f1 := (37, [some (.ref 62), some (.int v1), some (.int v2), some (.int v3), some (.int v4), some (.int v5), some (.int v6)], [])) (f2 := (64, [some (.ref 62), some (.int v1), some (.int v2), some (.int v3), some (.int v4), some (.int v5), some (.int v6)], [])) (h1 := zHp I) (fun n => rfl) (fun hc => ?_) (fun hc => ?_)
      · rw [if_pos hc] at hf
        obtain ⟨x310, hx, hf⟩ := Option.bind_eq_some_iff.mp hf
        refine zEv_call 10 (N := 60) (vs := [.ref 63, .int v5]) (v1 := some (.int x310)) (h1 := zHp I) (L := [some (.ref 62), some (.int v1), some (.int (v2 ||| (zShl 1 v5))), some (.int v3), some (.int v4), some (.int v5), some (.int v6)]) (rest := []) (pc := 53) (fun n => rfl) (s_Rw_at_63 hx d (by omega)) rfl rfl ?_
        show zEv _ _ _ (53, [some (.ref 62), some (.int v1), some (.int (v2 ||| (zShl 1 v5))), some (.int v3), some (.int v4), some (.int v5), some (.int v6)], [.int x310]) _ _ _
        refine zEv_go 4 (f1 := (21, [some (.ref 62), some (.int v1), some (.int (v2 ||| (zShl 1 v5))), some (.int v3), some (.int (v4 + 1)), some (.int x310), some (.int (v6 + 1))], [])) (h1 := zHp I) (fun n => rfl) ?_
        refine zEv_weak (L := [some (.ref 62), some (.int v1), some (.int (v2 ||| (zShl 1 v5))), some (.int v3), some (.int (v4 + 1)), some (.int x310), some (.int (v6 + 1))]) (by exact ⟨rfl, ⟨rfl, ⟨rfl, ⟨rfl, ⟨rfl, ⟨rfl, ⟨rfl, trivial⟩⟩⟩⟩⟩⟩⟩) ?_
        exact ih hf kk
      · rw [if_neg hc] at hf
        have hq0 := Option.some.inj hf
        obtain ⟨he0, hq1⟩ := Prod.mk.inj hq0
        subst he0
        subst hq1
        exact zEv_weak (L := [some (.ref 62), some (.int v1), some (.int v2), some (.int v3), some (.int v4), none, none]) (by exact ⟨rfl, ⟨rfl, ⟨rfl, ⟨rfl, ⟨rfl, ⟨rfl, ⟨rfl, trivial⟩⟩⟩⟩⟩⟩⟩) kk
def Od_sittingsLeft_L6 : Nat → Int32 → Int32 → Int32 → zI → Option (Int32)
  | 0, _, _, _, _ => none
  | n + 1, v1, v2, v3, I =>
    if 7 ≤ v3 then
      some v1
    else
      (Od_sittingsLeft_L21 n v1 v2 v3 0 v3 0 I).bind fun (x311, x312) =>
      (
        if x312 ≤ 1 then
          some v1
        else
          (
            if v3 = 0 then
              some (x312 - 1)
            else
              some (x312 + 1) : Option (Int32)).bind fun x315 =>
          some (v1 + x315) : Option (Int32)).bind fun x316 =>
      Od_sittingsLeft_L6 n x316 x311 (v3 + 1) I
theorem s_Od_sittingsLeft_L6 (d : Nat) (hd : 1 ≤ d) : ∀ (n : Nat) {v1 : Int32} {v2 : Int32} {v3 : Int32} {I : zI} {y1 : Int32} {v : Option Value} {h' : zH}, Od_sittingsLeft_L6 n v1 v2 v3 I = some y1 → zEv none d 42 (94, [some (.ref 62), some (.int y1), none, none, none, none, none], []) (zHp I) v h' → zEv none d 42 (6, [some (.ref 62), some (.int v1), some (.int v2), some (.int v3), none, none, none], []) (zHp I) v h' := by
  obtain ⟨d, rfl⟩ : ∃ e, d = e + 1 := ⟨d - 1, by omega⟩
  intro n
  induction n with
  | zero => intros; rename_i hf _; cases hf
  | succ n ih =>
    intro v1 v2 v3 I y1 v h' hf kk
    rw [Od_sittingsLeft_L6] at hf
    refine zEv_if 3 (c := 7 ≤ v3) (f1 := (94, [some (.ref 62), some (.int v1), some (.int v2), some (.int v3), none, none, none], [])) (f2 := (12, [some (.ref 62), some (.int v1), some (.int v2), some (.int v3), none, none, none], [])) (h1 := zHp I) (fun n => rfl) (fun hc => ?_) (fun hc => ?_)
    · rw [if_pos hc] at hf
      obtain rfl := Option.some.inj hf
      exact zEv_weak (L := [some (.ref 62), some (.int v1), none, none, none, none, none]) (by exact ⟨rfl, ⟨rfl, ⟨rfl, ⟨rfl, ⟨rfl, ⟨rfl, ⟨rfl, trivial⟩⟩⟩⟩⟩⟩⟩) kk
    · rw [if_neg hc] at hf
      obtain ⟨⟨x311, x312⟩, hx, hf⟩ := Option.bind_eq_some_iff.mp hf
      dsimp only at hf
      refine zEv_go 6 (f1 := (21, [some (.ref 62), some (.int v1), some (.int v2), some (.int v3), some (.int 0), some (.int v3), some (.int 0)], [])) (h1 := zHp I) (fun n => rfl) ?_
      refine zEv_weak (L := [some (.ref 62), some (.int v1), some (.int v2), some (.int v3), some (.int 0), some (.int v3), some (.int 0)]) (by exact ⟨rfl, ⟨rfl, ⟨rfl, ⟨rfl, ⟨rfl, ⟨rfl, ⟨rfl, trivial⟩⟩⟩⟩⟩⟩⟩) (s_Od_sittingsLeft_L21 (d + 1) (by omega) n hx ?_)
      obtain ⟨x316, hm_m313, hf⟩ := Option.bind_eq_some_iff.mp hf
      have hJ_m313 : zEv none (d + 1) 42 (88, [some (.ref 62), some (.int x316), some (.int x311), some (.int v3), none, none, none], []) (zHp I) v h' := by
        refine zEv_go 2 (f1 := (6, [some (.ref 62), some (.int x316), some (.int x311), some (.int (v3 + 1)), none, none, none], [])) (h1 := zHp I) (fun n => rfl) ?_
        refine zEv_weak (L := [some (.ref 62), some (.int x316), some (.int x311), some (.int (v3 + 1)), none, none, none]) (by exact ⟨rfl, ⟨rfl, ⟨rfl, ⟨rfl, ⟨rfl, ⟨rfl, ⟨rfl, trivial⟩⟩⟩⟩⟩⟩⟩) ?_
        exact ih hf kk
      clear hf
      refine zEv_if 3 (c := x312 ≤ 1) (f1 := (88, [some (.ref 62), some (.int v1), some (.int x311), some (.int v3), some (.int x312), none, none], [])) (f2 := (70, [some (.ref 62), some (.int v1), some (.int x311), some (.int v3), some (.int x312), none, none], [])) (h1 := zHp I) (fun n => rfl) (fun hc => ?_) (fun hc => ?_)
      · rw [if_pos hc] at hm_m313
        obtain rfl := Option.some.inj hm_m313
        exact zEv_weak (L := [some (.ref 62), some (.int v1), some (.int x311), some (.int v3), none, none, none]) (by exact ⟨rfl, ⟨rfl, ⟨rfl, ⟨rfl, ⟨rfl, ⟨rfl, ⟨rfl, trivial⟩⟩⟩⟩⟩⟩⟩) hJ_m313
      · rw [if_neg hc] at hm_m313
        obtain ⟨x315, hm_m314, hm_m313⟩ := Option.bind_eq_some_iff.mp hm_m313
        have hJ_m314 : zEv none (d + 1) 42 (86, [some (.ref 62), none, some (.int x311), some (.int v3), none, none, none], [.int x315, .int v1]) (zHp I) v h' := by
          obtain rfl := Option.some.inj hm_m313
          refine zEv_go 2 (f1 := (88, [some (.ref 62), some (.int (v1 + x315)), some (.int x311), some (.int v3), none, none, none], [])) (h1 := zHp I) (fun n => rfl) ?_
          exact zEv_weak (L := [some (.ref 62), some (.int (v1 + x315)), some (.int x311), some (.int v3), none, none, none]) (by exact ⟨rfl, ⟨rfl, ⟨rfl, ⟨rfl, ⟨rfl, ⟨rfl, ⟨rfl, trivial⟩⟩⟩⟩⟩⟩⟩) hJ_m313
        clear hm_m313
        refine zEv_if 3 (c := v3 = 0) (f1 := (75, [some (.ref 62), some (.int v1), some (.int x311), some (.int v3), some (.int x312), none, none], [.int v1])) (f2 := (82, [some (.ref 62), some (.int v1), some (.int x311), some (.int v3), some (.int x312), none, none], [.int v1])) (h1 := zHp I) (fun n => rfl) (fun hc => ?_) (fun hc => ?_)
        · rw [if_pos hc] at hm_m314
          obtain rfl := Option.some.inj hm_m314
          refine zEv_go 4 (f1 := (86, [some (.ref 62), some (.int v1), some (.int x311), some (.int v3), some (.int x312), none, none], [.int (x312 - 1), .int v1])) (h1 := zHp I) (fun n => rfl) ?_
          exact zEv_weak (L := [some (.ref 62), none, some (.int x311), some (.int v3), none, none, none]) (by exact ⟨rfl, ⟨rfl, ⟨rfl, ⟨rfl, ⟨rfl, ⟨rfl, ⟨rfl, trivial⟩⟩⟩⟩⟩⟩⟩) hJ_m314
        · rw [if_neg hc] at hm_m314
          obtain rfl := Option.some.inj hm_m314
          refine zEv_go 3 (f1 := (86, [some (.ref 62), some (.int v1), some (.int x311), some (.int v3), some (.int x312), none, none], [.int (x312 + 1), .int v1])) (h1 := zHp I) (fun n => rfl) ?_
          exact zEv_weak (L := [some (.ref 62), none, some (.int x311), some (.int v3), none, none, none]) (by exact ⟨rfl, ⟨rfl, ⟨rfl, ⟨rfl, ⟨rfl, ⟨rfl, ⟨rfl, trivial⟩⟩⟩⟩⟩⟩⟩) hJ_m314
def Od_sittingsLeft (n : Nat) (I : zI) : Option (Int32) :=
  (Od_sittingsLeft_L6 n 0 0 0 I).bind fun x317 =>
  some x317
theorem s_Od_sittingsLeft {n : Nat} {I : zI} {r : Int32} (hf : Od_sittingsLeft n I = some r) (d : Nat) (hd : 1 ≤ d) : zCall d 42 [.ref 62] (zHp I) (some (.int r)) (zHp I) := by
  obtain ⟨d, rfl⟩ : ∃ e, d = e + 1 := ⟨d - 1, by omega⟩
  rw [Od_sittingsLeft] at hf
  show zEv _ _ _ (0, [some (.ref 62), none, none, none, none, none, none], []) _ _ _
  obtain ⟨x317, hx, hf⟩ := Option.bind_eq_some_iff.mp hf
  refine zEv_go 6 (f1 := (6, [some (.ref 62), some (.int 0), some (.int 0), some (.int 0), none, none, none], [])) (h1 := zHp I) (fun n => rfl) ?_
  refine zEv_weak (L := [some (.ref 62), some (.int 0), some (.int 0), some (.int 0), none, none, none]) (by exact ⟨rfl, ⟨rfl, ⟨rfl, ⟨rfl, ⟨rfl, ⟨rfl, ⟨rfl, trivial⟩⟩⟩⟩⟩⟩⟩) (s_Od_sittingsLeft_L6 (d + 1) (by omega) n hx ?_)
  cases hf
  exact zEv_ret 2 (fun n => rfl)
def Od_swapWith  (a0 : Int32) (I : zI) : Option (zI) :=
  (Rw_at_63 0 I).bind fun x320 =>
  (Rw_at_63 a0 I).bind fun x321 =>
  (Rw_put_63 0 x321 I).bind fun I322 =>
  (Rw_put_63 a0 x320 I322).bind fun I323 =>
  some I323
theorem s_Od_swapWith  {a0 : Int32} {I : zI} {I' : zI} (hf : Od_swapWith a0 I = some I') (d : Nat) (hd : 1 ≤ d) : zCall d 44 [.ref 62, .int a0] (zHp I) (none) (zHp I') := by
  obtain ⟨d, rfl⟩ : ∃ e, d = e + 1 := ⟨d - 1, by omega⟩
  rw [Od_swapWith] at hf
  show zEv _ _ _ (0, [some (.ref 62), some (.int a0), none], []) _ _ _
  obtain ⟨x320, hx, hf⟩ := Option.bind_eq_some_iff.mp hf
  refine zEv_call 4 (N := 60) (vs := [.ref 63, .int 0]) (v1 := some (.int x320)) (h1 := zHp I) (L := [some (.ref 62), some (.int a0), none]) (rest := []) (pc := 8) (fun n => rfl) (s_Rw_at_63 hx d (by omega)) rfl rfl ?_
  show zEv _ _ _ (8, [some (.ref 62), some (.int a0), none], [.int x320]) _ _ _
  obtain ⟨x321, hx, hf⟩ := Option.bind_eq_some_iff.mp hf
  refine zEv_call 8 (N := 60) (vs := [.ref 63, .int a0]) (v1 := some (.int x321)) (h1 := zHp I) (L := [some (.ref 62), some (.int a0), some (.int x320)]) (rest := [.int 0, .ref 63]) (pc := 22) (fun n => rfl) (s_Rw_at_63 hx d (by omega)) rfl rfl ?_
  show zEv _ _ _ (22, [some (.ref 62), some (.int a0), some (.int x320)], [.int x321, .int 0, .ref 63]) _ _ _
  obtain ⟨I322, hx, hf⟩ := Option.bind_eq_some_iff.mp hf
  refine zEv_call 1 (N := 61) (vs := [.ref 63, .int 0, .int x321]) (v1 := none) (h1 := zHp I322) (L := [some (.ref 62), some (.int a0), some (.int x320)]) (rest := []) (pc := 25) (fun n => rfl) (s_Rw_put_63 hx d (by omega)) rfl rfl ?_
  show zEv _ _ _ (25, [some (.ref 62), some (.int a0), some (.int x320)], []) _ _ _
  obtain ⟨I323, hx, hf⟩ := Option.bind_eq_some_iff.mp hf
  refine zEv_call 5 (N := 61) (vs := [.ref 63, .int a0, .int x320]) (v1 := none) (h1 := zHp I323) (L := [some (.ref 62), some (.int a0), some (.int x320)]) (rest := []) (pc := 34) (fun n => rfl) (s_Rw_put_63 hx d (by omega)) rfl rfl ?_
  show zEv _ _ _ (34, [some (.ref 62), some (.int a0), some (.int x320)], []) _ _ _
  cases hf
  exact zEv_ret 1 (fun n => rfl)
def Od_firstSitting_L7 : Nat → Int32 → Int32 → zI → Option (Int32 × zI)
  | 0, _, _, _ => none
  | n + 1, v1, v2, I =>
    if 7 ≤ v2 then
      some ((-6), I)
    else
      (Od_swapWith v2 I).bind fun I324 =>
      (Od_sittingsLeft n I324).bind fun x325 =>
      (Od_swapWith v2 I324).bind fun I326 =>
      if v1 ≤ x325 then
        Od_firstSitting_L7 n v1 (v2 + 1) I326
      else
        some (v2, I326)
theorem s_Od_firstSitting_L7 (d : Nat) (hd : 2 ≤ d) : ∀ (n : Nat) {v1 : Int32} {v2 : Int32} {I : zI} {r : Int32} {I' : zI}, Od_firstSitting_L7 n v1 v2 I = some (r, I') → zEv none d 43 (7, [some (.ref 62), some (.int v1), some (.int v2), none], []) (zHp I) (some (.int r)) (zHp I') := by
  obtain ⟨d, rfl⟩ : ∃ e, d = e + 1 := ⟨d - 1, by omega⟩
  intro n
  induction n with
  | zero => intros; rename_i hf; cases hf
  | succ n ih =>
    intro v1 v2 I r I' hf
    rw [Od_firstSitting_L7] at hf
    refine zEv_if 3 (c := 7 ≤ v2) (f1 := (41, [some (.ref 62), some (.int v1), some (.int v2), none], [])) (f2 := (13, [some (.ref 62), some (.int v1), some (.int v2), none], [])) (h1 := zHp I) (fun n => rfl) (fun hc => ?_) (fun hc => ?_)
    · rw [if_pos hc] at hf
      cases hf
      exact zEv_ret 2 (fun n => rfl)
    · rw [if_neg hc] at hf
      obtain ⟨I324, hx, hf⟩ := Option.bind_eq_some_iff.mp hf
      refine zEv_call 3 (N := 44) (vs := [.ref 62, .int v2]) (v1 := none) (h1 := zHp I324) (L := [some (.ref 62), some (.int v1), some (.int v2), none]) (rest := []) (pc := 18) (fun n => rfl) (s_Od_swapWith hx d (by omega)) rfl rfl ?_
      show zEv _ _ _ (18, [some (.ref 62), some (.int v1), some (.int v2), none], []) _ _ _
      obtain ⟨x325, hx, hf⟩ := Option.bind_eq_some_iff.mp hf
      refine zEv_call 2 (N := 42) (vs := [.ref 62]) (v1 := some (.int x325)) (h1 := zHp I324) (L := [some (.ref 62), some (.int v1), some (.int v2), none]) (rest := []) (pc := 22) (fun n => rfl) (s_Od_sittingsLeft hx d (by omega)) rfl rfl ?_
      show zEv _ _ _ (22, [some (.ref 62), some (.int v1), some (.int v2), none], [.int x325]) _ _ _
      obtain ⟨I326, hx, hf⟩ := Option.bind_eq_some_iff.mp hf
      refine zEv_call 4 (N := 44) (vs := [.ref 62, .int v2]) (v1 := none) (h1 := zHp I326) (L := [some (.ref 62), some (.int v1), some (.int v2), some (.int x325)]) (rest := []) (pc := 28) (fun n => rfl) (s_Od_swapWith hx d (by omega)) rfl rfl ?_
      show zEv _ _ _ (28, [some (.ref 62), some (.int v1), some (.int v2), some (.int x325)], []) _ _ _
      refine zEv_if 3 (c := v1 ≤ x325) (f1 := (35, [some (.ref 62), some (.int v1), some (.int v2), some (.int x325)], [])) (f2 := (33, [some (.ref 62), some (.int v1), some (.int v2), some (.int x325)], [])) (h1 := zHp I326) (fun n => rfl) (fun hc => ?_) (fun hc => ?_)
      · rw [if_pos hc] at hf
        refine zEv_go 2 (f1 := (7, [some (.ref 62), some (.int v1), some (.int (v2 + 1)), some (.int x325)], [])) (h1 := zHp I326) (fun n => rfl) ?_
        refine zEv_weak (L := [some (.ref 62), some (.int v1), some (.int (v2 + 1)), none]) (by exact ⟨rfl, ⟨rfl, ⟨rfl, ⟨rfl, trivial⟩⟩⟩⟩) ?_
        exact ih hf
      · rw [if_neg hc] at hf
        cases hf
        exact zEv_ret 2 (fun n => rfl)
def Od_firstSitting (n : Nat) (I : zI) : Option (Int32 × zI) :=
  (Od_sittingsLeft n I).bind fun x319 =>
  Od_firstSitting_L7 n x319 1 I
theorem s_Od_firstSitting {n : Nat} {I : zI} {r : Int32} {I' : zI} (hf : Od_firstSitting n I = some (r, I')) (d : Nat) (hd : 2 ≤ d) : zCall d 43 [.ref 62] (zHp I) (some (.int r)) (zHp I') := by
  obtain ⟨d, rfl⟩ : ∃ e, d = e + 1 := ⟨d - 1, by omega⟩
  rw [Od_firstSitting] at hf
  show zEv _ _ _ (0, [some (.ref 62), none, none, none], []) _ _ _
  obtain ⟨x319, hx, hf⟩ := Option.bind_eq_some_iff.mp hf
  refine zEv_call 2 (N := 42) (vs := [.ref 62]) (v1 := some (.int x319)) (h1 := zHp I) (L := [some (.ref 62), none, none, none]) (rest := []) (pc := 4) (fun n => rfl) (s_Od_sittingsLeft hx d (by omega)) rfl rfl ?_
  show zEv _ _ _ (4, [some (.ref 62), none, none, none], [.int x319]) _ _ _
  refine zEv_go 3 (f1 := (7, [some (.ref 62), some (.int x319), some (.int 1), none], [])) (h1 := zHp I) (fun n => rfl) ?_
  exact zEv_weak (L := [some (.ref 62), some (.int x319), some (.int 1), none]) (by exact ⟨rfl, ⟨rfl, ⟨rfl, ⟨rfl, trivial⟩⟩⟩⟩) (s_Od_firstSitting_L7 (d + 1) (by omega) n hf)
def BM_right (n : Nat) (a0 : Int32) (a1 : Int32) (I : zI) : Option (Int32 × zI) :=
  (Od_read n a0 I).bind fun (x306, I307) =>
  if x306 = 0 then
    some ((-2), I307)
  else
    (BM_isWithin a1 0 1 I307).bind fun x308 =>
    if x308 = 0 then
      some ((-2), I307)
    else
      if a1 = 0 then
        (Od_sittingsLeft n I307).bind fun x318 =>
        some (x318, I307)
      else
        (Od_firstSitting n I307).bind fun (x327, I328) =>
        some (x327, I328)
theorem s_BM_right {n : Nat} {a0 : Int32} {a1 : Int32} {I : zI} {r : Int32} {I' : zI} (hf : BM_right n a0 a1 I = some (r, I')) (d : Nat) (hd : 3 ≤ d) : zCall d 97 [.ref 1, .int a0, .int a1] (zHp I) (some (.int r)) (zHp I') := by
  obtain ⟨d, rfl⟩ : ∃ e, d = e + 1 := ⟨d - 1, by omega⟩
  rw [BM_right] at hf
  show zEv _ _ _ (0, [some (.ref 1), some (.int a0), some (.int a1)], []) _ _ _
  obtain ⟨⟨x306, I307⟩, hx, hf⟩ := Option.bind_eq_some_iff.mp hf
  dsimp only at hf
  refine zEv_call 4 (N := 41) (vs := [.ref 62, .int a0]) (v1 := some (.int x306)) (h1 := zHp I307) (L := [some (.ref 1), some (.int a0), some (.int a1)]) (rest := []) (pc := 8) (fun n => rfl) (s_Od_read hx d (by omega)) rfl rfl ?_
  show zEv _ _ _ (8, [some (.ref 1), some (.int a0), some (.int a1)], [.int x306]) _ _ _
  refine zEv_if 1 (c := x306 = 0) (f1 := (20, [some (.ref 1), some (.int a0), some (.int a1)], [])) (f2 := (11, [some (.ref 1), some (.int a0), some (.int a1)], [])) (h1 := zHp I307) (fun n => rfl) (fun hc => ?_) (fun hc => ?_)
  · rw [if_pos hc] at hf
    cases hf
    exact zEv_ret 2 (fun n => rfl)
  · rw [if_neg hc] at hf
    obtain ⟨x308, hx, hf⟩ := Option.bind_eq_some_iff.mp hf
    refine zEv_call 4 (N := 109) (vs := [.int a1, .int 0, .int 1]) (v1 := some (.int x308)) (h1 := zHp I307) (L := [some (.ref 1), some (.int a0), some (.int a1)]) (rest := []) (pc := 17) (fun n => rfl) (s_BM_isWithin hx d (by omega)) rfl rfl ?_
    show zEv _ _ _ (17, [some (.ref 1), some (.int a0), some (.int a1)], [.int x308]) _ _ _
    refine zEv_if 1 (c := x308 = 0) (f1 := (20, [some (.ref 1), some (.int a0), some (.int a1)], [])) (f2 := (23, [some (.ref 1), some (.int a0), some (.int a1)], [])) (h1 := zHp I307) (fun n => rfl) (fun hc => ?_) (fun hc => ?_)
    · rw [if_pos hc] at hf
      cases hf
      exact zEv_ret 2 (fun n => rfl)
    · rw [if_neg hc] at hf
      refine zEv_if 2 (c := a1 = 0) (f1 := (27, [some (.ref 1), some (.int a0), some (.int a1)], [])) (f2 := (37, [some (.ref 1), some (.int a0), some (.int a1)], [])) (h1 := zHp I307) (fun n => rfl) (fun hc => ?_) (fun hc => ?_)
      · rw [if_pos hc] at hf
        obtain ⟨x318, hx, hf⟩ := Option.bind_eq_some_iff.mp hf
        refine zEv_call 3 (N := 42) (vs := [.ref 62]) (v1 := some (.int x318)) (h1 := zHp I307) (L := [some (.ref 1), some (.int a0), some (.int a1)]) (rest := []) (pc := 34) (fun n => rfl) (s_Od_sittingsLeft hx d (by omega)) rfl rfl ?_
        show zEv _ _ _ (34, [some (.ref 1), some (.int a0), some (.int a1)], [.int x318]) _ _ _
        cases hf
        exact zEv_ret 2 (fun n => rfl)
      · rw [if_neg hc] at hf
        obtain ⟨⟨x327, I328⟩, hx, hf⟩ := Option.bind_eq_some_iff.mp hf
        dsimp only at hf
        refine zEv_call 3 (N := 43) (vs := [.ref 62]) (v1 := some (.int x327)) (h1 := zHp I328) (L := [some (.ref 1), some (.int a0), some (.int a1)]) (rest := []) (pc := 44) (fun n => rfl) (s_Od_firstSitting hx d (by omega)) rfl rfl ?_
        show zEv _ _ _ (44, [some (.ref 1), some (.int a0), some (.int a1)], [.int x327]) _ _ _
        cases hf
        exact zEv_ret 1 (fun n => rfl)
def Rw_put_11  (a0 : Int32) (a1 : Int32) (I : zI) : Option (zI) :=
  if a0 < 0 then
    some I
  else
    if 8 ≤ a0 then
      some I
    else
      if zIn a0 8 then
        some (zUp I 12 (Int32.toNatClampNeg a0) a1)
      else none
theorem s_Rw_put_11  {a0 : Int32} {a1 : Int32} {I : zI} {I' : zI} (hf : Rw_put_11 a0 a1 I = some I') (d : Nat) (hd : 0 ≤ d) : zCall d 61 [.ref 11, .int a0, .int a1] (zHp I) (none) (zHp I') := by
  rw [Rw_put_11] at hf
  show zEv _ _ _ (0, [some (.ref 11), some (.int a0), some (.int a1)], []) _ _ _
  refine zEv_if 2 (c := a0 < 0) (f1 := (20, [some (.ref 11), some (.int a0), some (.int a1)], [])) (f2 := (4, [some (.ref 11), some (.int a0), some (.int a1)], [])) (h1 := zHp I) (fun n => rfl) (fun hc => ?_) (fun hc => ?_)
  · rw [if_pos hc] at hf
    cases hf
    exact zEv_ret 1 (fun n => rfl)
  · rw [if_neg hc] at hf
    refine zEv_if 5 (c := 8 ≤ a0) (f1 := (20, [some (.ref 11), some (.int a0), some (.int a1)], [])) (f2 := (13, [some (.ref 11), some (.int a0), some (.int a1)], [])) (h1 := zHp I) (fun n => rfl) (fun hc => ?_) (fun hc => ?_)
    · rw [if_pos hc] at hf
      cases hf
      exact zEv_ret 1 (fun n => rfl)
    · rw [if_neg hc] at hf
      obtain ⟨hc, hf⟩ := zGd_inv hf
      refine zEv_gd 5 (c := zIn a0 8) (f1 := (20, [some (.ref 11), some (.int a0), some (.int a1)], [])) (h1 := zHp (zUp I 12 (Int32.toNatClampNeg a0) a1)) (fun n => rfl) hc ?_
      cases hf
      exact zEv_ret 1 (fun n => rfl)
def Ga_addSight_2  (a0 : Int32) (a1 : Int32) (a2 : Int32) (I : zI) : Option (zI) :=
  (
    if a2 = 0 then
      some 0
    else
      some 1 : Option (Int32)).bind fun x332 =>
  (Rw_put_11 (I 2 5) ((((a0 * 8) + a1) * 2) + x332) I).bind fun I333 =>
  some (zUp I333 2 5 ((I333 2 5) + 1))
theorem s_Ga_addSight_2  {a0 : Int32} {a1 : Int32} {a2 : Int32} {I : zI} {I' : zI} (hf : Ga_addSight_2 a0 a1 a2 I = some I') (d : Nat) (hd : 1 ≤ d) : zCall d 37 [.ref 2, .int a0, .int a1, .int a2] (zHp I) (none) (zHp I') := by
  obtain ⟨d, rfl⟩ : ∃ e, d = e + 1 := ⟨d - 1, by omega⟩
  rw [Ga_addSight_2] at hf
  show zEv _ _ _ (0, [some (.ref 2), some (.int a0), some (.int a1), some (.int a2)], []) _ _ _
  obtain ⟨x332, hm_m331, hf⟩ := Option.bind_eq_some_iff.mp hf
  have hJ_m331 : zEv none (d + 1) 37 (25, [some (.ref 2), none, none, none], [.int x332, .int (((a0 * 8) + a1) * 2), .int (I 2 5), .ref 11]) (zHp I) (none) (zHp I') := by
    obtain ⟨I333, hx, hf⟩ := Option.bind_eq_some_iff.mp hf
    refine zEv_call 2 (N := 61) (vs := [.ref 11, .int (I 2 5), .int ((((a0 * 8) + a1) * 2) + x332)]) (v1 := none) (h1 := zHp I333) (L := [some (.ref 2), none, none, none]) (rest := []) (pc := 29) (fun n => rfl) (s_Rw_put_11 hx d (by omega)) rfl rfl ?_
    show zEv _ _ _ (29, [some (.ref 2), none, none, none], []) _ _ _
    cases hf
    exact zEv_ret 7 (fun n => rfl)
  clear hf
  refine zEv_if 13 (c := a2 = 0) (f1 := (24, [some (.ref 2), some (.int a0), some (.int a1), some (.int a2)], [.int (((a0 * 8) + a1) * 2), .int (I 2 5), .ref 11])) (f2 := (20, [some (.ref 2), some (.int a0), some (.int a1), some (.int a2)], [.int (((a0 * 8) + a1) * 2), .int (I 2 5), .ref 11])) (h1 := zHp I) (fun n => rfl) (fun hc => ?_) (fun hc => ?_)
  · rw [if_pos hc] at hm_m331
    obtain rfl := Option.some.inj hm_m331
    refine zEv_go 1 (f1 := (25, [some (.ref 2), some (.int a0), some (.int a1), some (.int a2)], [.int 0, .int (((a0 * 8) + a1) * 2), .int (I 2 5), .ref 11])) (h1 := zHp I) (fun n => rfl) ?_
    exact zEv_weak (L := [some (.ref 2), none, none, none]) (by exact ⟨rfl, ⟨rfl, ⟨rfl, ⟨rfl, trivial⟩⟩⟩⟩) hJ_m331
  · rw [if_neg hc] at hm_m331
    obtain rfl := Option.some.inj hm_m331
    refine zEv_go 2 (f1 := (25, [some (.ref 2), some (.int a0), some (.int a1), some (.int a2)], [.int 1, .int (((a0 * 8) + a1) * 2), .int (I 2 5), .ref 11])) (h1 := zHp I) (fun n => rfl) ?_
    exact zEv_weak (L := [some (.ref 2), none, none, none]) (by exact ⟨rfl, ⟨rfl, ⟨rfl, ⟨rfl, trivial⟩⟩⟩⟩) hJ_m331
def BM_seen  (a0 : Int32) (a1 : Int32) (a2 : Int32) (I : zI) : Option (Int32 × zI) :=
  (BM_isWithin a0 0 60 I).bind fun x329 =>
  if x329 = 0 then
    some ((-2), I)
  else
    (BM_isWithin a1 0 7 I).bind fun x330 =>
    if x330 = 0 then
      some ((-2), I)
    else
      if (I 2 5) < 8 then
        (Ga_addSight_2 a0 a1 a2 I).bind fun I334 =>
        some ((I334 2 5), I334)
      else
        some ((-4), I)
theorem s_BM_seen  {a0 : Int32} {a1 : Int32} {a2 : Int32} {I : zI} {r : Int32} {I' : zI} (hf : BM_seen a0 a1 a2 I = some (r, I')) (d : Nat) (hd : 2 ≤ d) : zCall d 98 [.ref 1, .int a0, .int a1, .int a2] (zHp I) (some (.int r)) (zHp I') := by
  obtain ⟨d, rfl⟩ : ∃ e, d = e + 1 := ⟨d - 1, by omega⟩
  rw [BM_seen] at hf
  show zEv _ _ _ (0, [some (.ref 1), some (.int a0), some (.int a1), some (.int a2)], []) _ _ _
  obtain ⟨x329, hx, hf⟩ := Option.bind_eq_some_iff.mp hf
  refine zEv_call 4 (N := 109) (vs := [.int a0, .int 0, .int 60]) (v1 := some (.int x329)) (h1 := zHp I) (L := [some (.ref 1), some (.int a0), some (.int a1), some (.int a2)]) (rest := []) (pc := 7) (fun n => rfl) (s_BM_isWithin hx d (by omega)) rfl rfl ?_
  show zEv _ _ _ (7, [some (.ref 1), some (.int a0), some (.int a1), some (.int a2)], [.int x329]) _ _ _
  refine zEv_if 1 (c := x329 = 0) (f1 := (20, [some (.ref 1), some (.int a0), some (.int a1), some (.int a2)], [])) (f2 := (10, [some (.ref 1), some (.int a0), some (.int a1), some (.int a2)], [])) (h1 := zHp I) (fun n => rfl) (fun hc => ?_) (fun hc => ?_)
  · rw [if_pos hc] at hf
    cases hf
    exact zEv_ret 2 (fun n => rfl)
  · rw [if_neg hc] at hf
    obtain ⟨x330, hx, hf⟩ := Option.bind_eq_some_iff.mp hf
    refine zEv_call 4 (N := 109) (vs := [.int a1, .int 0, .int 7]) (v1 := some (.int x330)) (h1 := zHp I) (L := [some (.ref 1), some (.int a0), some (.int a1), some (.int a2)]) (rest := []) (pc := 17) (fun n => rfl) (s_BM_isWithin hx d (by omega)) rfl rfl ?_
    show zEv _ _ _ (17, [some (.ref 1), some (.int a0), some (.int a1), some (.int a2)], [.int x330]) _ _ _
    refine zEv_if 1 (c := x330 = 0) (f1 := (20, [some (.ref 1), some (.int a0), some (.int a1), some (.int a2)], [])) (f2 := (23, [some (.ref 1), some (.int a0), some (.int a1), some (.int a2)], [])) (h1 := zHp I) (fun n => rfl) (fun hc => ?_) (fun hc => ?_)
    · rw [if_pos hc] at hf
      cases hf
      exact zEv_ret 2 (fun n => rfl)
    · rw [if_neg hc] at hf
      refine zEv_if 5 (c := (I 2 5) < 8) (f1 := (38, [some (.ref 1), some (.int a0), some (.int a1), some (.int a2)], [])) (f2 := (35, [some (.ref 1), some (.int a0), some (.int a1), some (.int a2)], [])) (h1 := zHp I) (fun n => rfl) (fun hc => ?_) (fun hc => ?_)
      · rw [if_pos hc] at hf
        obtain ⟨I334, hx, hf⟩ := Option.bind_eq_some_iff.mp hf
        refine zEv_call 6 (N := 37) (vs := [.ref 2, .int a0, .int a1, .int a2]) (v1 := none) (h1 := zHp I334) (L := [some (.ref 1), some (.int a0), some (.int a1), some (.int a2)]) (rest := []) (pc := 48) (fun n => rfl) (s_Ga_addSight_2 hx d (by omega)) rfl rfl ?_
        show zEv _ _ _ (48, [some (.ref 1), some (.int a0), some (.int a1), some (.int a2)], []) _ _ _
        cases hf
        exact zEv_ret 4 (fun n => rfl)
      · rw [if_neg hc] at hf
        cases hf
        exact zEv_ret 2 (fun n => rfl)
def Ga_dropSights_2  (I : zI) : Option (zI) :=
  some (zUp I 2 5 0)
theorem s_Ga_dropSights_2  {I : zI} {I' : zI} (hf : Ga_dropSights_2 I = some I') (d : Nat) (hd : 0 ≤ d) : zCall d 38 [.ref 2] (zHp I) (none) (zHp I') := by
  rw [Ga_dropSights_2] at hf
  show zEv _ _ _ (0, [some (.ref 2)], []) _ _ _
  cases hf
  exact zEv_ret 4 (fun n => rfl)
def BM_clear  (I : zI) : Option (Int32 × zI) :=
  (Ga_dropSights_2 I).bind fun I335 =>
  some ((I 2 5), I335)
theorem s_BM_clear  {I : zI} {r : Int32} {I' : zI} (hf : BM_clear I = some (r, I')) (d : Nat) (hd : 1 ≤ d) : zCall d 99 [.ref 1] (zHp I) (some (.int r)) (zHp I') := by
  obtain ⟨d, rfl⟩ : ∃ e, d = e + 1 := ⟨d - 1, by omega⟩
  rw [BM_clear] at hf
  show zEv _ _ _ (0, [some (.ref 1), none], []) _ _ _
  obtain ⟨I335, hx, hf⟩ := Option.bind_eq_some_iff.mp hf
  refine zEv_call 7 (N := 38) (vs := [.ref 2]) (v1 := none) (h1 := zHp I335) (L := [some (.ref 1), some (.int (I 2 5))]) (rest := []) (pc := 15) (fun n => rfl) (s_Ga_dropSights_2 hx d (by omega)) rfl rfl ?_
  show zEv _ _ _ (15, [some (.ref 1), some (.int (I 2 5))], []) _ _ _
  cases hf
  exact zEv_ret 2 (fun n => rfl)
def Rw_at_11  (a0 : Int32) (I : zI) : Option (Int32) :=
  if a0 < 0 then
    some (-6)
  else
    if 8 ≤ a0 then
      some (-6)
    else
      if zIn a0 8 then
        some (I 12 (Int32.toNatClampNeg a0))
      else none
theorem s_Rw_at_11  {a0 : Int32} {I : zI} {r : Int32} (hf : Rw_at_11 a0 I = some r) (d : Nat) (hd : 0 ≤ d) : zCall d 60 [.ref 11, .int a0] (zHp I) (some (.int r)) (zHp I) := by
  rw [Rw_at_11] at hf
  show zEv _ _ _ (0, [some (.ref 11), some (.int a0)], []) _ _ _
  refine zEv_if 2 (c := a0 < 0) (f1 := (22, [some (.ref 11), some (.int a0)], [])) (f2 := (4, [some (.ref 11), some (.int a0)], [])) (h1 := zHp I) (fun n => rfl) (fun hc => ?_) (fun hc => ?_)
  · rw [if_pos hc] at hf
    cases hf
    exact zEv_ret 2 (fun n => rfl)
  · rw [if_neg hc] at hf
    refine zEv_if 5 (c := 8 ≤ a0) (f1 := (22, [some (.ref 11), some (.int a0)], [])) (f2 := (13, [some (.ref 11), some (.int a0)], [])) (h1 := zHp I) (fun n => rfl) (fun hc => ?_) (fun hc => ?_)
    · rw [if_pos hc] at hf
      cases hf
      exact zEv_ret 2 (fun n => rfl)
    · rw [if_neg hc] at hf
      obtain ⟨hc, hf⟩ := zGd_inv hf
      refine zEv_gd 4 (c := zIn a0 8) (f1 := (19, [some (.ref 11), some (.int a0)], [.int (I 12 (Int32.toNatClampNeg a0))])) (h1 := zHp I) (fun n => rfl) hc ?_
      cases hf
      exact zEv_ret 2 (fun n => rfl)
def Su_holder  (a0 : Int32) (a1 : Int32) (a2 : Int32) (I : zI) : Option (Int32) :=
  if a0 < 2 then
    some a1
  else
    if a1 < a2 then
      if ¬ (a0 + 1) = 0 then
        if (zRem ((a2 - a1) - 1) (a0 + 1)) = 0 then
          some (-6)
        else
          if ¬ (a0 + 1) = 0 then
            if ¬ a0 = 0 then
              some (zRem ((a1 + 1) + (((a2 - a1) - 1) / (a0 + 1))) a0)
            else none
          else none
      else none
    else
      some a1
theorem s_Su_holder  {a0 : Int32} {a1 : Int32} {a2 : Int32} {I : zI} {r : Int32} (hf : Su_holder a0 a1 a2 I = some r) (d : Nat) (hd : 0 ≤ d) : zCall d 66 [.int a0, .int a1, .int a2] (zHp I) (some (.int r)) (zHp I) := by
  rw [Su_holder] at hf
  show zEv _ _ _ (0, [some (.int a0), some (.int a1), some (.int a2), none], []) _ _ _
  refine zEv_if 3 (c := a0 < 2) (f1 := (10, [some (.int a0), some (.int a1), some (.int a2), none], [])) (f2 := (5, [some (.int a0), some (.int a1), some (.int a2), none], [])) (h1 := zHp I) (fun n => rfl) (fun hc => ?_) (fun hc => ?_)
  · rw [if_pos hc] at hf
    cases hf
    exact zEv_ret 2 (fun n => rfl)
  · rw [if_neg hc] at hf
    refine zEv_if 3 (c := a1 < a2) (f1 := (12, [some (.int a0), some (.int a1), some (.int a2), none], [])) (f2 := (10, [some (.int a0), some (.int a1), some (.int a2), none], [])) (h1 := zHp I) (fun n => rfl) (fun hc => ?_) (fun hc => ?_)
    · rw [if_pos hc] at hf
      obtain ⟨hc, hf⟩ := zGd_inv hf
      refine zEv_gd 11 (c := ¬ (a0 + 1) = 0) (f1 := (23, [some (.int a0), some (.int a1), some (.int a2), some (.int ((a2 - a1) - 1))], [.int (zRem ((a2 - a1) - 1) (a0 + 1))])) (h1 := zHp I) (fun n => rfl) hc ?_
      refine zEv_if 1 (c := (zRem ((a2 - a1) - 1) (a0 + 1)) = 0) (f1 := (26, [some (.int a0), some (.int a1), some (.int a2), some (.int ((a2 - a1) - 1))], [])) (f2 := (31, [some (.int a0), some (.int a1), some (.int a2), some (.int ((a2 - a1) - 1))], [])) (h1 := zHp I) (fun n => rfl) (fun hc => ?_) (fun hc => ?_)
      · rw [if_pos hc] at hf
        cases hf
        exact zEv_ret 3 (fun n => rfl)
      · rw [if_neg hc] at hf
        obtain ⟨hc, hf⟩ := zGd_inv hf
        refine zEv_gd 8 (c := ¬ (a0 + 1) = 0) (f1 := (39, [some (.int a0), some (.int a1), some (.int a2), some (.int ((a2 - a1) - 1))], [.int (((a2 - a1) - 1) / (a0 + 1)), .int (a1 + 1)])) (h1 := zHp I) (fun n => rfl) hc ?_
        obtain ⟨hc, hf⟩ := zGd_inv hf
        refine zEv_gd 3 (c := ¬ a0 = 0) (f1 := (42, [some (.int a0), some (.int a1), some (.int a2), some (.int ((a2 - a1) - 1))], [.int (zRem ((a1 + 1) + (((a2 - a1) - 1) / (a0 + 1))) a0)])) (h1 := zHp I) (fun n => rfl) hc ?_
        cases hf
        exact zEv_ret 1 (fun n => rfl)
    · rw [if_neg hc] at hf
      cases hf
      exact zEv_ret 2 (fun n => rfl)
def Ga_allSeenSo_2_L2 : Nat → Int32 → Int32 → Int32 → zI → Option (Int32)
  | 0, _, _, _, _ => none
  | n + 1, v1, v2, v3, I =>
    if (I 2 5) ≤ v3 then
      some 1
    else
      (Rw_at_11 v3 I).bind fun x336 =>
      (
        if (zRem x336 2) = 1 then
          some 1
        else
          some 0 : Option (Int32)).bind fun x338 =>
      (Su_holder v1 v2 ((x336 / 2) / 8) I).bind fun x339 =>
      (
        if x339 = (zRem (x336 / 2) 8) then
          some 1
        else
          some 0 : Option (Int32)).bind fun x341 =>
      if x338 = x341 then
        Ga_allSeenSo_2_L2 n v1 v2 (v3 + 1) I
      else
        some 0
theorem s_Ga_allSeenSo_2_L2 (d : Nat) (hd : 1 ≤ d) : ∀ (n : Nat) {v1 : Int32} {v2 : Int32} {v3 : Int32} {I : zI} {r : Int32}, Ga_allSeenSo_2_L2 n v1 v2 v3 I = some r → zEv none d 39 (2, [some (.ref 2), some (.int v1), some (.int v2), some (.int v3), none, none, none, none], []) (zHp I) (some (.int r)) (zHp I) := by
  obtain ⟨d, rfl⟩ : ∃ e, d = e + 1 := ⟨d - 1, by omega⟩
  intro n
  induction n with
  | zero => intros; rename_i hf; cases hf
  | succ n ih =>
    intro v1 v2 v3 I r hf
    rw [Ga_allSeenSo_2_L2] at hf
    refine zEv_if 4 (c := (I 2 5) ≤ v3) (f1 := (83, [some (.ref 2), some (.int v1), some (.int v2), some (.int v3), none, none, none, none], [])) (f2 := (10, [some (.ref 2), some (.int v1), some (.int v2), some (.int v3), none, none, none, none], [])) (h1 := zHp I) (fun n => rfl) (fun hc => ?_) (fun hc => ?_)
    · rw [if_pos hc] at hf
      cases hf
      exact zEv_ret 2 (fun n => rfl)
    · rw [if_neg hc] at hf
      obtain ⟨x336, hx, hf⟩ := Option.bind_eq_some_iff.mp hf
      refine zEv_call 4 (N := 60) (vs := [.ref 11, .int v3]) (v1 := some (.int x336)) (h1 := zHp I) (L := [some (.ref 2), some (.int v1), some (.int v2), some (.int v3), none, none, none, none]) (rest := []) (pc := 18) (fun n => rfl) (s_Rw_at_11 hx d (by omega)) rfl rfl ?_
      show zEv _ _ _ (18, [some (.ref 2), some (.int v1), some (.int v2), some (.int v3), none, none, none, none], [.int x336]) _ _ _
      obtain ⟨x338, hm_m337, hf⟩ := Option.bind_eq_some_iff.mp hf
      have hJ_m337 : zEv none (d + 1) 39 (42, [some (.ref 2), some (.int v1), some (.int v2), some (.int v3), some (.int x336), some (.int (zRem (x336 / 2) 8)), none, none], [.int x338]) (zHp I) (some (.int r)) (zHp I) := by
        obtain ⟨x339, hx, hf⟩ := Option.bind_eq_some_iff.mp hf
        refine zEv_call 9 (N := 66) (vs := [.int v1, .int v2, .int ((x336 / 2) / 8)]) (v1 := some (.int x339)) (h1 := zHp I) (L := [some (.ref 2), some (.int v1), some (.int v2), some (.int v3), some (.int x336), some (.int (zRem (x336 / 2) 8)), some (.int x338), none]) (rest := []) (pc := 56) (fun n => rfl) (s_Su_holder hx d (by omega)) rfl rfl ?_
        show zEv _ _ _ (56, [some (.ref 2), some (.int v1), some (.int v2), some (.int v3), some (.int x336), some (.int (zRem (x336 / 2) 8)), some (.int x338), none], [.int x339]) _ _ _
        obtain ⟨x341, hm_m340, hf⟩ := Option.bind_eq_some_iff.mp hf
        have hJ_m340 : zEv none (d + 1) 39 (72, [some (.ref 2), some (.int v1), some (.int v2), some (.int v3), none, none, none, none], [.int x341, .int x338]) (zHp I) (some (.int r)) (zHp I) := by
          refine zEv_if 1 (c := x338 = x341) (f1 := (77, [some (.ref 2), some (.int v1), some (.int v2), some (.int v3), none, none, none, none], [])) (f2 := (75, [some (.ref 2), some (.int v1), some (.int v2), some (.int v3), none, none, none, none], [])) (h1 := zHp I) (fun n => rfl) (fun hc => ?_) (fun hc => ?_)
          · rw [if_pos hc] at hf
            refine zEv_go 2 (f1 := (2, [some (.ref 2), some (.int v1), some (.int v2), some (.int (v3 + 1)), none, none, none, none], [])) (h1 := zHp I) (fun n => rfl) ?_
            refine zEv_weak (L := [some (.ref 2), some (.int v1), some (.int v2), some (.int (v3 + 1)), none, none, none, none]) (by exact ⟨rfl, ⟨rfl, ⟨rfl, ⟨rfl, ⟨rfl, ⟨rfl, ⟨rfl, ⟨rfl, trivial⟩⟩⟩⟩⟩⟩⟩⟩) ?_
            exact ih hf
          · rw [if_neg hc] at hf
            cases hf
            exact zEv_ret 2 (fun n => rfl)
        clear hf
        refine zEv_if 5 (c := x339 = (zRem (x336 / 2) 8)) (f1 := (67, [some (.ref 2), some (.int v1), some (.int v2), some (.int v3), some (.int x336), some (.int (zRem (x336 / 2) 8)), some (.int x338), some (.int x339)], [.int x338])) (f2 := (71, [some (.ref 2), some (.int v1), some (.int v2), some (.int v3), some (.int x336), some (.int (zRem (x336 / 2) 8)), some (.int x338), some (.int x339)], [.int x338])) (h1 := zHp I) (fun n => rfl) (fun hc => ?_) (fun hc => ?_)
        · rw [if_pos hc] at hm_m340
          obtain rfl := Option.some.inj hm_m340
          refine zEv_go 2 (f1 := (72, [some (.ref 2), some (.int v1), some (.int v2), some (.int v3), some (.int x336), some (.int (zRem (x336 / 2) 8)), some (.int x338), some (.int x339)], [.int 1, .int x338])) (h1 := zHp I) (fun n => rfl) ?_
          exact zEv_weak (L := [some (.ref 2), some (.int v1), some (.int v2), some (.int v3), none, none, none, none]) (by exact ⟨rfl, ⟨rfl, ⟨rfl, ⟨rfl, ⟨rfl, ⟨rfl, ⟨rfl, ⟨rfl, trivial⟩⟩⟩⟩⟩⟩⟩⟩) hJ_m340
        · rw [if_neg hc] at hm_m340
          obtain rfl := Option.some.inj hm_m340
          refine zEv_go 1 (f1 := (72, [some (.ref 2), some (.int v1), some (.int v2), some (.int v3), some (.int x336), some (.int (zRem (x336 / 2) 8)), some (.int x338), some (.int x339)], [.int 0, .int x338])) (h1 := zHp I) (fun n => rfl) ?_
          exact zEv_weak (L := [some (.ref 2), some (.int v1), some (.int v2), some (.int v3), none, none, none, none]) (by exact ⟨rfl, ⟨rfl, ⟨rfl, ⟨rfl, ⟨rfl, ⟨rfl, ⟨rfl, ⟨rfl, trivial⟩⟩⟩⟩⟩⟩⟩⟩) hJ_m340
      clear hf
      refine zEv_if 12 (c := (zRem x336 2) = 1) (f1 := (37, [some (.ref 2), some (.int v1), some (.int v2), some (.int v3), some (.int x336), some (.int (zRem (x336 / 2) 8)), none, none], [])) (f2 := (41, [some (.ref 2), some (.int v1), some (.int v2), some (.int v3), some (.int x336), some (.int (zRem (x336 / 2) 8)), none, none], [])) (h1 := zHp I) (fun n => rfl) (fun hc => ?_) (fun hc => ?_)
      · rw [if_pos hc] at hm_m337
        obtain rfl := Option.some.inj hm_m337
        refine zEv_go 2 (f1 := (42, [some (.ref 2), some (.int v1), some (.int v2), some (.int v3), some (.int x336), some (.int (zRem (x336 / 2) 8)), none, none], [.int 1])) (h1 := zHp I) (fun n => rfl) ?_
        exact zEv_weak (L := [some (.ref 2), some (.int v1), some (.int v2), some (.int v3), some (.int x336), some (.int (zRem (x336 / 2) 8)), none, none]) (by exact ⟨rfl, ⟨rfl, ⟨rfl, ⟨rfl, ⟨rfl, ⟨rfl, ⟨rfl, ⟨rfl, trivial⟩⟩⟩⟩⟩⟩⟩⟩) hJ_m337
      · rw [if_neg hc] at hm_m337
        obtain rfl := Option.some.inj hm_m337
        refine zEv_go 1 (f1 := (42, [some (.ref 2), some (.int v1), some (.int v2), some (.int v3), some (.int x336), some (.int (zRem (x336 / 2) 8)), none, none], [.int 0])) (h1 := zHp I) (fun n => rfl) ?_
        exact zEv_weak (L := [some (.ref 2), some (.int v1), some (.int v2), some (.int v3), some (.int x336), some (.int (zRem (x336 / 2) 8)), none, none]) (by exact ⟨rfl, ⟨rfl, ⟨rfl, ⟨rfl, ⟨rfl, ⟨rfl, ⟨rfl, ⟨rfl, trivial⟩⟩⟩⟩⟩⟩⟩⟩) hJ_m337
def Ga_allSeenSo_2 (n : Nat) (a0 : Int32) (a1 : Int32) (I : zI) : Option (Int32) :=
  Ga_allSeenSo_2_L2 n a0 a1 0 I
theorem s_Ga_allSeenSo_2 {n : Nat} {a0 : Int32} {a1 : Int32} {I : zI} {r : Int32} (hf : Ga_allSeenSo_2 n a0 a1 I = some r) (d : Nat) (hd : 1 ≤ d) : zCall d 39 [.ref 2, .int a0, .int a1] (zHp I) (some (.int r)) (zHp I) := by
  obtain ⟨d, rfl⟩ : ∃ e, d = e + 1 := ⟨d - 1, by omega⟩
  rw [Ga_allSeenSo_2] at hf
  show zEv _ _ _ (0, [some (.ref 2), some (.int a0), some (.int a1), none, none, none, none, none], []) _ _ _
  refine zEv_go 2 (f1 := (2, [some (.ref 2), some (.int a0), some (.int a1), some (.int 0), none, none, none, none], [])) (h1 := zHp I) (fun n => rfl) ?_
  exact zEv_weak (L := [some (.ref 2), some (.int a0), some (.int a1), some (.int 0), none, none, none, none]) (by exact ⟨rfl, ⟨rfl, ⟨rfl, ⟨rfl, ⟨rfl, ⟨rfl, ⟨rfl, ⟨rfl, trivial⟩⟩⟩⟩⟩⟩⟩⟩) (s_Ga_allSeenSo_2_L2 (d + 1) (by omega) n hf)
def Rw_put_66  (a0 : Int32) (a1 : Int32) (I : zI) : Option (zI) :=
  if a0 < 0 then
    some I
  else
    if 35 ≤ a0 then
      some I
    else
      if zIn a0 35 then
        some (zUp I 67 (Int32.toNatClampNeg a0) a1)
      else none
theorem s_Rw_put_66  {a0 : Int32} {a1 : Int32} {I : zI} {I' : zI} (hf : Rw_put_66 a0 a1 I = some I') (d : Nat) (hd : 0 ≤ d) : zCall d 61 [.ref 66, .int a0, .int a1] (zHp I) (none) (zHp I') := by
  rw [Rw_put_66] at hf
  show zEv _ _ _ (0, [some (.ref 66), some (.int a0), some (.int a1)], []) _ _ _
  refine zEv_if 2 (c := a0 < 0) (f1 := (20, [some (.ref 66), some (.int a0), some (.int a1)], [])) (f2 := (4, [some (.ref 66), some (.int a0), some (.int a1)], [])) (h1 := zHp I) (fun n => rfl) (fun hc => ?_) (fun hc => ?_)
  · rw [if_pos hc] at hf
    cases hf
    exact zEv_ret 1 (fun n => rfl)
  · rw [if_neg hc] at hf
    refine zEv_if 5 (c := 35 ≤ a0) (f1 := (20, [some (.ref 66), some (.int a0), some (.int a1)], [])) (f2 := (13, [some (.ref 66), some (.int a0), some (.int a1)], [])) (h1 := zHp I) (fun n => rfl) (fun hc => ?_) (fun hc => ?_)
    · rw [if_pos hc] at hf
      cases hf
      exact zEv_ret 1 (fun n => rfl)
    · rw [if_neg hc] at hf
      obtain ⟨hc, hf⟩ := zGd_inv hf
      refine zEv_gd 5 (c := zIn a0 35) (f1 := (20, [some (.ref 66), some (.int a0), some (.int a1)], [])) (h1 := zHp (zUp I 67 (Int32.toNatClampNeg a0) a1)) (fun n => rfl) hc ?_
      cases hf
      exact zEv_ret 1 (fun n => rfl)
def Su_sift_2_L15 : Nat → Int32 → Int32 → zI → Option (zI)
  | 0, _, _, _ => none
  | n + 1, v2, v3, I =>
    if v2 ≤ v3 then
      some I
    else
      (Ga_allSeenSo_2 n v2 v3 I).bind fun x342 =>
      (
        if x342 = 0 then
          some I
        else
          (Rw_put_66 (I 65 2) ((10 * v2) + v3) I).bind fun I344 =>
          some (zUp I344 65 2 ((I344 65 2) + 1)) : Option (zI)).bind fun I345 =>
      Su_sift_2_L15 n v2 (v3 + 1) I345
theorem s_Su_sift_2_L15 (d : Nat) (hd : 2 ≤ d) : ∀ (n : Nat) {v2 : Int32} {v3 : Int32} {I : zI}  {I' : zI} {v : Option Value} {h' : zH}, Su_sift_2_L15 n v2 v3 I = some I' → zEv none d 65 (66, [some (.ref 65), some (.ref 2), some (.int v2), none], []) (zHp I') v h' → zEv none d 65 (15, [some (.ref 65), some (.ref 2), some (.int v2), some (.int v3)], []) (zHp I) v h' := by
  obtain ⟨d, rfl⟩ : ∃ e, d = e + 1 := ⟨d - 1, by omega⟩
  intro n
  induction n with
  | zero => intros; rename_i hf _; cases hf
  | succ n ih =>
    intro v2 v3 I I' v h' hf kk
    rw [Su_sift_2_L15] at hf
    refine zEv_if 3 (c := v2 ≤ v3) (f1 := (66, [some (.ref 65), some (.ref 2), some (.int v2), some (.int v3)], [])) (f2 := (20, [some (.ref 65), some (.ref 2), some (.int v2), some (.int v3)], [])) (h1 := zHp I) (fun n => rfl) (fun hc => ?_) (fun hc => ?_)
    · rw [if_pos hc] at hf
      obtain rfl := Option.some.inj hf
      exact zEv_weak (L := [some (.ref 65), some (.ref 2), some (.int v2), none]) (by exact ⟨rfl, ⟨rfl, ⟨rfl, ⟨rfl, trivial⟩⟩⟩⟩) kk
    · rw [if_neg hc] at hf
      obtain ⟨x342, hx, hf⟩ := Option.bind_eq_some_iff.mp hf
      refine zEv_call 6 (N := 39) (vs := [.ref 2, .int v2, .int v3]) (v1 := some (.int x342)) (h1 := zHp I) (L := [some (.ref 65), some (.ref 2), some (.int v2), some (.int v3)]) (rest := []) (pc := 30) (fun n => rfl) (s_Ga_allSeenSo_2 hx d (by omega)) rfl rfl ?_
      show zEv _ _ _ (30, [some (.ref 65), some (.ref 2), some (.int v2), some (.int v3)], [.int x342]) _ _ _
      obtain ⟨I345, hm_m343, hf⟩ := Option.bind_eq_some_iff.mp hf
      have hJ_m343 : zEv none (d + 1) 65 (60, [some (.ref 65), some (.ref 2), some (.int v2), some (.int v3)], []) (zHp I345) v h' := by
        refine zEv_go 2 (f1 := (15, [some (.ref 65), some (.ref 2), some (.int v2), some (.int (v3 + 1))], [])) (h1 := zHp I345) (fun n => rfl) ?_
        refine zEv_weak (L := [some (.ref 65), some (.ref 2), some (.int v2), some (.int (v3 + 1))]) (by exact ⟨rfl, ⟨rfl, ⟨rfl, ⟨rfl, trivial⟩⟩⟩⟩) ?_
        exact ih hf kk
      clear hf
      refine zEv_if 1 (c := x342 = 0) (f1 := (60, [some (.ref 65), some (.ref 2), some (.int v2), some (.int v3)], [])) (f2 := (33, [some (.ref 65), some (.ref 2), some (.int v2), some (.int v3)], [])) (h1 := zHp I) (fun n => rfl) (fun hc => ?_) (fun hc => ?_)
      · rw [if_pos hc] at hm_m343
        obtain rfl := Option.some.inj hm_m343
        exact zEv_weak (L := [some (.ref 65), some (.ref 2), some (.int v2), some (.int v3)]) (by exact ⟨rfl, ⟨rfl, ⟨rfl, ⟨rfl, trivial⟩⟩⟩⟩) hJ_m343
      · rw [if_neg hc] at hm_m343
        obtain ⟨I344, hx, hm_m343⟩ := Option.bind_eq_some_iff.mp hm_m343
        refine zEv_call 10 (N := 61) (vs := [.ref 66, .int (I 65 2), .int ((10 * v2) + v3)]) (v1 := none) (h1 := zHp I344) (L := [some (.ref 65), some (.ref 2), some (.int v2), some (.int v3)]) (rest := []) (pc := 50) (fun n => rfl) (s_Rw_put_66 hx d (by omega)) rfl rfl ?_
        show zEv _ _ _ (50, [some (.ref 65), some (.ref 2), some (.int v2), some (.int v3)], []) _ _ _
        obtain rfl := Option.some.inj hm_m343
        refine zEv_go 6 (f1 := (60, [some (.ref 65), some (.ref 2), some (.int v2), some (.int v3)], [])) (h1 := zHp (zUp I344 65 2 ((I344 65 2) + 1))) (fun n => rfl) ?_
        exact zEv_weak (L := [some (.ref 65), some (.ref 2), some (.int v2), some (.int v3)]) (by exact ⟨rfl, ⟨rfl, ⟨rfl, ⟨rfl, trivial⟩⟩⟩⟩) hJ_m343
def Su_sift_2_L7 : Nat → Int32 → zI → Option (zI)
  | 0, _, _ => none
  | n + 1, v2, I =>
    if 8 < v2 then
      some I
    else
      (Su_sift_2_L15 n v2 0 I).bind fun I346 =>
      Su_sift_2_L7 n (v2 + 1) I346
theorem s_Su_sift_2_L7 (d : Nat) (hd : 2 ≤ d) : ∀ (n : Nat) {v2 : Int32} {I : zI}  {I' : zI} {v : Option Value} {h' : zH}, Su_sift_2_L7 n v2 I = some I' → zEv none d 65 (72, [some (.ref 65), some (.ref 2), none, none], []) (zHp I') v h' → zEv none d 65 (7, [some (.ref 65), some (.ref 2), some (.int v2), none], []) (zHp I) v h' := by
  obtain ⟨d, rfl⟩ : ∃ e, d = e + 1 := ⟨d - 1, by omega⟩
  intro n
  induction n with
  | zero => intros; rename_i hf _; cases hf
  | succ n ih =>
    intro v2 I I' v h' hf kk
    rw [Su_sift_2_L7] at hf
    refine zEv_if 3 (c := 8 < v2) (f1 := (72, [some (.ref 65), some (.ref 2), some (.int v2), none], [])) (f2 := (13, [some (.ref 65), some (.ref 2), some (.int v2), none], [])) (h1 := zHp I) (fun n => rfl) (fun hc => ?_) (fun hc => ?_)
    · rw [if_pos hc] at hf
      obtain rfl := Option.some.inj hf
      exact zEv_weak (L := [some (.ref 65), some (.ref 2), none, none]) (by exact ⟨rfl, ⟨rfl, ⟨rfl, ⟨rfl, trivial⟩⟩⟩⟩) kk
    · rw [if_neg hc] at hf
      obtain ⟨I346, hx, hf⟩ := Option.bind_eq_some_iff.mp hf
      refine zEv_go 2 (f1 := (15, [some (.ref 65), some (.ref 2), some (.int v2), some (.int 0)], [])) (h1 := zHp I) (fun n => rfl) ?_
      refine zEv_weak (L := [some (.ref 65), some (.ref 2), some (.int v2), some (.int 0)]) (by exact ⟨rfl, ⟨rfl, ⟨rfl, ⟨rfl, trivial⟩⟩⟩⟩) (s_Su_sift_2_L15 (d + 1) (by omega) n hx ?_)
      refine zEv_go 2 (f1 := (7, [some (.ref 65), some (.ref 2), some (.int (v2 + 1)), none], [])) (h1 := zHp I346) (fun n => rfl) ?_
      refine zEv_weak (L := [some (.ref 65), some (.ref 2), some (.int (v2 + 1)), none]) (by exact ⟨rfl, ⟨rfl, ⟨rfl, ⟨rfl, trivial⟩⟩⟩⟩) ?_
      exact ih hf kk
def Su_sift_2 (n : Nat) (I : zI) : Option (zI) :=
  (Su_sift_2_L7 n 2 (zUp I 65 2 0)).bind fun I347 =>
  some I347
theorem s_Su_sift_2 {n : Nat} {I : zI} {I' : zI} (hf : Su_sift_2 n I = some I') (d : Nat) (hd : 2 ≤ d) : zCall d 65 [.ref 65, .ref 2] (zHp I) (none) (zHp I') := by
  obtain ⟨d, rfl⟩ : ∃ e, d = e + 1 := ⟨d - 1, by omega⟩
  rw [Su_sift_2] at hf
  show zEv _ _ _ (0, [some (.ref 65), some (.ref 2), none, none], []) _ _ _
  obtain ⟨I347, hx, hf⟩ := Option.bind_eq_some_iff.mp hf
  refine zEv_go 5 (f1 := (7, [some (.ref 65), some (.ref 2), some (.int 2), none], [])) (h1 := zHp (zUp I 65 2 0)) (fun n => rfl) ?_
  refine zEv_weak (L := [some (.ref 65), some (.ref 2), some (.int 2), none]) (by exact ⟨rfl, ⟨rfl, ⟨rfl, ⟨rfl, trivial⟩⟩⟩⟩) (s_Su_sift_2_L7 (d + 1) (by omega) n hx ?_)
  cases hf
  exact zEv_ret 1 (fun n => rfl)
