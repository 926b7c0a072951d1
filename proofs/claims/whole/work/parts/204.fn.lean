def Rw_at_55  (a0 : Int32) (I : zI) : Option (Int32) :=
  if a0 < 0 then
    some (-6)
  else
    if 100 ≤ a0 then
      some (-6)
    else
      if zIn a0 100 then
        some (I 56 (Int32.toNatClampNeg a0))
      else none
theorem s_Rw_at_55  {a0 : Int32} {I : zI} {r : Int32} (hf : Rw_at_55 a0 I = some r) (d : Nat) (hd : 0 ≤ d) : zCall d 60 [.ref 55, .int a0] (zHp I) (some (.int r)) (zHp I) := by
  rw [Rw_at_55] at hf
  show zEv _ _ _ (0, [some (.ref 55), some (.int a0)], []) _ _ _
  refine zEv_if 2 (c := a0 < 0) (f1 := (22, [some (.ref 55), some (.int a0)], [])) (f2 := (4, [some (.ref 55), some (.int a0)], [])) (h1 := zHp I) (fun n => rfl) (fun hc => ?_) (fun hc => ?_)
  · rw [if_pos hc] at hf
    cases hf
    exact zEv_ret 2 (fun n => rfl)
  · rw [if_neg hc] at hf
    refine zEv_if 5 (c := 100 ≤ a0) (f1 := (22, [some (.ref 55), some (.int a0)], [])) (f2 := (13, [some (.ref 55), some (.int a0)], [])) (h1 := zHp I) (fun n => rfl) (fun hc => ?_) (fun hc => ?_)
    · rw [if_pos hc] at hf
      cases hf
      exact zEv_ret 2 (fun n => rfl)
    · rw [if_neg hc] at hf
      obtain ⟨hc, hf⟩ := zGd_inv hf
      refine zEv_gd 4 (c := zIn a0 100) (f1 := (19, [some (.ref 55), some (.int a0)], [.int (I 56 (Int32.toNatClampNeg a0))])) (h1 := zHp I) (fun n => rfl) hc ?_
      cases hf
      exact zEv_ret 2 (fun n => rfl)
def Rw_at_57  (a0 : Int32) (I : zI) : Option (Int32) :=
  if a0 < 0 then
    some (-6)
  else
    if 4608 ≤ a0 then
      some (-6)
    else
      if zIn a0 4608 then
        some (I 58 (Int32.toNatClampNeg a0))
      else none
theorem s_Rw_at_57  {a0 : Int32} {I : zI} {r : Int32} (hf : Rw_at_57 a0 I = some r) (d : Nat) (hd : 0 ≤ d) : zCall d 60 [.ref 57, .int a0] (zHp I) (some (.int r)) (zHp I) := by
  rw [Rw_at_57] at hf
  show zEv _ _ _ (0, [some (.ref 57), some (.int a0)], []) _ _ _
  refine zEv_if 2 (c := a0 < 0) (f1 := (22, [some (.ref 57), some (.int a0)], [])) (f2 := (4, [some (.ref 57), some (.int a0)], [])) (h1 := zHp I) (fun n => rfl) (fun hc => ?_) (fun hc => ?_)
  · rw [if_pos hc] at hf
    cases hf
    exact zEv_ret 2 (fun n => rfl)
  · rw [if_neg hc] at hf
    refine zEv_if 5 (c := 4608 ≤ a0) (f1 := (22, [some (.ref 57), some (.int a0)], [])) (f2 := (13, [some (.ref 57), some (.int a0)], [])) (h1 := zHp I) (fun n => rfl) (fun hc => ?_) (fun hc => ?_)
    · rw [if_pos hc] at hf
      cases hf
      exact zEv_ret 2 (fun n => rfl)
    · rw [if_neg hc] at hf
      obtain ⟨hc, hf⟩ := zGd_inv hf
      refine zEv_gd 4 (c := zIn a0 4608) (f1 := (19, [some (.ref 57), some (.int a0)], [.int (I 58 (Int32.toNatClampNeg a0))])) (h1 := zHp I) (fun n => rfl) hc ?_
      cases hf
      exact zEv_ret 2 (fun n => rfl)
def Rd_cheapest_L22 : Nat → Int32 → Int32 → Int32 → Int32 → zI → Option (Int32)
  | 0, _, _, _, _, _ => none
  | n + 1, v1, v2, v3, v4, I =>
    if (I 52 3) ≤ v4 then
      some v3
    else
      (BM_has v1 v4 I).bind fun x239 =>
      (
        if x239 = 0 then
          some v3
        else
          (Rw_at_57 ((v1 * 9) + v4) I).bind fun x241 =>
          (Rw_at_55 ((v4 * 10) + v2) I).bind fun x242 =>
          some (if (x241 + x242) < v3 then (x241 + x242) else v3) : Option (Int32)).bind fun x243 =>
      Rd_cheapest_L22 n v1 v2 x243 (v4 + 1) I
theorem s_Rd_cheapest_L22 (d : Nat) (hd : 1 ≤ d) : ∀ (n : Nat) {v1 : Int32} {v2 : Int32} {v3 : Int32} {v4 : Int32} {I : zI} {y3 : Int32} {v : Option Value} {h' : zH}, Rd_cheapest_L22 n v1 v2 v3 v4 I = some y3 → zEv none d 58 (84, [some (.ref 52), none, none, some (.int y3), none, none], []) (zHp I) v h' → zEv none d 58 (22, [some (.ref 52), some (.int v1), some (.int v2), some (.int v3), some (.int v4), none], []) (zHp I) v h' := by
  obtain ⟨d, rfl⟩ : ∃ e, d = e + 1 := ⟨d - 1, by omega⟩
  intro n
  induction n with
  | zero => intros; rename_i hf _; cases hf
  | succ n ih =>
    intro v1 v2 v3 v4 I y3 v h' hf kk
    rw [Rd_cheapest_L22] at hf
    refine zEv_if 4 (c := (I 52 3) ≤ v4) (f1 := (84, [some (.ref 52), some (.int v1), some (.int v2), some (.int v3), some (.int v4), none], [])) (f2 := (31, [some (.ref 52), some (.int v1), some (.int v2), some (.int v3), some (.int v4), none], [])) (h1 := zHp I) (fun n => rfl) (fun hc => ?_) (fun hc => ?_)
    · rw [if_pos hc] at hf
      obtain rfl := Option.some.inj hf
      exact zEv_weak (L := [some (.ref 52), none, none, some (.int v3), none, none]) (by exact ⟨rfl, ⟨rfl, ⟨rfl, ⟨rfl, ⟨rfl, ⟨rfl, trivial⟩⟩⟩⟩⟩⟩) kk
    · rw [if_neg hc] at hf
      obtain ⟨x239, hx, hf⟩ := Option.bind_eq_some_iff.mp hf
      refine zEv_call 3 (N := 113) (vs := [.int v1, .int v4]) (v1 := some (.int x239)) (h1 := zHp I) (L := [some (.ref 52), some (.int v1), some (.int v2), some (.int v3), some (.int v4), none]) (rest := []) (pc := 37) (fun n => rfl) (s_BM_has hx d (by omega)) rfl rfl ?_
      show zEv _ _ _ (37, [some (.ref 52), some (.int v1), some (.int v2), some (.int v3), some (.int v4), none], [.int x239]) _ _ _
      obtain ⟨x243, hm_m240, hf⟩ := Option.bind_eq_some_iff.mp hf
      have hJ_m240 : zEv none (d + 1) 58 (78, [some (.ref 52), some (.int v1), some (.int v2), some (.int x243), some (.int v4), none], []) (zHp I) v h' := by
        refine zEv_go 2 (f1 := (22, [some (.ref 52), some (.int v1), some (.int v2), some (.int x243), some (.int (v4 + 1)), none], [])) (h1 := zHp I) (fun n => rfl) ?_
        refine zEv_weak (L := [some (.ref 52), some (.int v1), some (.int v2), some (.int x243), some (.int (v4 + 1)), none]) (by exact ⟨rfl, ⟨rfl, ⟨rfl, ⟨rfl, ⟨rfl, ⟨rfl, trivial⟩⟩⟩⟩⟩⟩) ?_
        exact ih hf kk
      clear hf
      refine zEv_if 1 (c := x239 = 0) (f1 := (78, [some (.ref 52), some (.int v1), some (.int v2), some (.int v3), some (.int v4), none], [])) (f2 := (40, [some (.ref 52), some (.int v1), some (.int v2), some (.int v3), some (.int v4), none], [])) (h1 := zHp I) (fun n => rfl) (fun hc => ?_) (fun hc => ?_)
      · rw [if_pos hc] at hm_m240
        obtain rfl := Option.some.inj hm_m240
        exact zEv_weak (L := [some (.ref 52), some (.int v1), some (.int v2), some (.int v3), some (.int v4), none]) (by exact ⟨rfl, ⟨rfl, ⟨rfl, ⟨rfl, ⟨rfl, ⟨rfl, trivial⟩⟩⟩⟩⟩⟩) hJ_m240
      · rw [if_neg hc] at hm_m240
        obtain ⟨x241, hx, hm_m240⟩ := Option.bind_eq_some_iff.mp hm_m240
        refine zEv_call 8 (N := 60) (vs := [.ref 57, .int ((v1 * 9) + v4)]) (v1 := some (.int x241)) (h1 := zHp I) (L := [some (.ref 52), some (.int v1), some (.int v2), some (.int v3), some (.int v4), none]) (rest := []) (pc := 54) (fun n => rfl) (s_Rw_at_57 hx d (by omega)) rfl rfl ?_
        show zEv _ _ _ (54, [some (.ref 52), some (.int v1), some (.int v2), some (.int v3), some (.int v4), none], [.int x241]) _ _ _
        obtain ⟨x242, hx, hm_m240⟩ := Option.bind_eq_some_iff.mp hm_m240
        refine zEv_call 8 (N := 60) (vs := [.ref 55, .int ((v4 * 10) + v2)]) (v1 := some (.int x242)) (h1 := zHp I) (L := [some (.ref 52), some (.int v1), some (.int v2), some (.int v3), some (.int v4), none]) (rest := [.int x241]) (pc := 68) (fun n => rfl) (s_Rw_at_55 hx d (by omega)) rfl rfl ?_
        show zEv _ _ _ (68, [some (.ref 52), some (.int v1), some (.int v2), some (.int v3), some (.int v4), none], [.int x242, .int x241]) _ _ _
        obtain rfl := Option.some.inj hm_m240
        refine zEv_go 6 (f1 := (78, [some (.ref 52), some (.int v1), some (.int v2), some (.int (if (x241 + x242) < v3 then (x241 + x242) else v3)), some (.int v4), some (.int (x241 + x242))], [])) (h1 := zHp I) (fun n => rfl) ?_
        exact zEv_weak (L := [some (.ref 52), some (.int v1), some (.int v2), some (.int (if (x241 + x242) < v3 then (x241 + x242) else v3)), some (.int v4), none]) (by exact ⟨rfl, ⟨rfl, ⟨rfl, ⟨rfl, ⟨rfl, ⟨rfl, trivial⟩⟩⟩⟩⟩⟩) hJ_m240
def Rd_cheapest (n : Nat) (a0 : Int32) (a1 : Int32) (I : zI) : Option (Int32) :=
  if a0 = 0 then
    (Rw_at_55 (90 + a1) I).bind fun x238 =>
    some x238
  else
    (Rd_cheapest_L22 n a0 a1 1000000 0 I).bind fun x244 =>
    some x244
theorem s_Rd_cheapest {n : Nat} {a0 : Int32} {a1 : Int32} {I : zI} {r : Int32} (hf : Rd_cheapest n a0 a1 I = some r) (d : Nat) (hd : 1 ≤ d) : zCall d 58 [.ref 52, .int a0, .int a1] (zHp I) (some (.int r)) (zHp I) := by
  obtain ⟨d, rfl⟩ : ∃ e, d = e + 1 := ⟨d - 1, by omega⟩
  rw [Rd_cheapest] at hf
  show zEv _ _ _ (0, [some (.ref 52), some (.int a0), some (.int a1), none, none, none], []) _ _ _
  refine zEv_if 2 (c := a0 = 0) (f1 := (4, [some (.ref 52), some (.int a0), some (.int a1), none, none, none], [])) (f2 := (16, [some (.ref 52), some (.int a0), some (.int a1), none, none, none], [])) (h1 := zHp I) (fun n => rfl) (fun hc => ?_) (fun hc => ?_)
  · rw [if_pos hc] at hf
    obtain ⟨x238, hx, hf⟩ := Option.bind_eq_some_iff.mp hf
    refine zEv_call 6 (N := 60) (vs := [.ref 55, .int (90 + a1)]) (v1 := some (.int x238)) (h1 := zHp I) (L := [some (.ref 52), some (.int a0), some (.int a1), none, none, none]) (rest := []) (pc := 15) (fun n => rfl) (s_Rw_at_55 hx d (by omega)) rfl rfl ?_
    show zEv _ _ _ (15, [some (.ref 52), some (.int a0), some (.int a1), none, none, none], [.int x238]) _ _ _
    cases hf
    exact zEv_ret 1 (fun n => rfl)
  · rw [if_neg hc] at hf
    obtain ⟨x244, hx, hf⟩ := Option.bind_eq_some_iff.mp hf
    refine zEv_go 4 (f1 := (22, [some (.ref 52), some (.int a0), some (.int a1), some (.int 1000000), some (.int 0), none], [])) (h1 := zHp I) (fun n => rfl) ?_
    refine zEv_weak (L := [some (.ref 52), some (.int a0), some (.int a1), some (.int 1000000), some (.int 0), none]) (by exact ⟨rfl, ⟨rfl, ⟨rfl, ⟨rfl, ⟨rfl, ⟨rfl, trivial⟩⟩⟩⟩⟩⟩) (s_Rd_cheapest_L22 (d + 1) (by omega) n hx ?_)
    cases hf
    exact zEv_ret 2 (fun n => rfl)
def Rw_put_57  (a0 : Int32) (a1 : Int32) (I : zI) : Option (zI) :=
  if a0 < 0 then
    some I
  else
    if 4608 ≤ a0 then
      some I
    else
      if zIn a0 4608 then
        some (zUp I 58 (Int32.toNatClampNeg a0) a1)
      else none
theorem s_Rw_put_57  {a0 : Int32} {a1 : Int32} {I : zI} {I' : zI} (hf : Rw_put_57 a0 a1 I = some I') (d : Nat) (hd : 0 ≤ d) : zCall d 61 [.ref 57, .int a0, .int a1] (zHp I) (none) (zHp I') := by
  rw [Rw_put_57] at hf
  show zEv _ _ _ (0, [some (.ref 57), some (.int a0), some (.int a1)], []) _ _ _
  refine zEv_if 2 (c := a0 < 0) (f1 := (20, [some (.ref 57), some (.int a0), some (.int a1)], [])) (f2 := (4, [some (.ref 57), some (.int a0), some (.int a1)], [])) (h1 := zHp I) (fun n => rfl) (fun hc => ?_) (fun hc => ?_)
  · rw [if_pos hc] at hf
    cases hf
    exact zEv_ret 1 (fun n => rfl)
  · rw [if_neg hc] at hf
    refine zEv_if 5 (c := 4608 ≤ a0) (f1 := (20, [some (.ref 57), some (.int a0), some (.int a1)], [])) (f2 := (13, [some (.ref 57), some (.int a0), some (.int a1)], [])) (h1 := zHp I) (fun n => rfl) (fun hc => ?_) (fun hc => ?_)
    · rw [if_pos hc] at hf
      cases hf
      exact zEv_ret 1 (fun n => rfl)
    · rw [if_neg hc] at hf
      obtain ⟨hc, hf⟩ := zGd_inv hf
      refine zEv_gd 5 (c := zIn a0 4608) (f1 := (20, [some (.ref 57), some (.int a0), some (.int a1)], [])) (h1 := zHp (zUp I 58 (Int32.toNatClampNeg a0) a1)) (fun n => rfl) hc ?_
      cases hf
      exact zEv_ret 1 (fun n => rfl)
def Rd_shortest_2_L65 : Nat → Int32 → Int32 → Int32 → zI → Option (zI)
  | 0, _, _, _, _ => none
  | n + 1, v4, v5, v6, I =>
    if (I 52 3) ≤ v6 then
      some I
    else
      (BM_has v5 v6 I).bind fun x236 =>
      (
        if x236 = 0 then
          some I
        else
          (Rd_cheapest n (v5 &&& ((zShl 1 v6) ^^^ (-1))) v6 I).bind fun x245 =>
          (Rw_put_57 ((v5 * 9) + v6) x245 I).bind fun I246 =>
          some I246 : Option (zI)).bind fun I247 =>
      Rd_shortest_2_L65 n v4 v5 (v6 + 1) I247
theorem s_Rd_shortest_2_L65 (d : Nat) (hd : 4 ≤ d) : ∀ (n : Nat) {v4 : Int32} {v5 : Int32} {v6 : Int32} {I : zI}  {I' : zI} {v : Option Value} {h' : zH}, Rd_shortest_2_L65 n v4 v5 v6 I = some I' → zEv none d 55 (120, [some (.ref 52), some (.ref 2), none, none, some (.int v4), some (.int v5), none], []) (zHp I') v h' → zEv none d 55 (65, [some (.ref 52), some (.ref 2), none, none, some (.int v4), some (.int v5), some (.int v6)], []) (zHp I) v h' := by
  obtain ⟨d, rfl⟩ : ∃ e, d = e + 1 := ⟨d - 1, by omega⟩
  intro n
  induction n with
  | zero => intros; rename_i hf _; cases hf
  | succ n ih =>
    intro v4 v5 v6 I I' v h' hf kk
    rw [Rd_shortest_2_L65] at hf
    refine zEv_if 4 (c := (I 52 3) ≤ v6) (f1 := (120, [some (.ref 52), some (.ref 2), none, none, some (.int v4), some (.int v5), some (.int v6)], [])) (f2 := (74, [some (.ref 52), some (.ref 2), none, none, some (.int v4), some (.int v5), some (.int v6)], [])) (h1 := zHp I) (fun n => rfl) (fun hc => ?_) (fun hc => ?_)
    · rw [if_pos hc] at hf
      obtain rfl := Option.some.inj hf
      exact zEv_weak (L := [some (.ref 52), some (.ref 2), none, none, some (.int v4), some (.int v5), none]) (by exact ⟨rfl, ⟨rfl, ⟨rfl, ⟨rfl, ⟨rfl, ⟨rfl, ⟨rfl, trivial⟩⟩⟩⟩⟩⟩⟩) kk
    · rw [if_neg hc] at hf
      obtain ⟨x236, hx, hf⟩ := Option.bind_eq_some_iff.mp hf
      refine zEv_call 3 (N := 113) (vs := [.int v5, .int v6]) (v1 := some (.int x236)) (h1 := zHp I) (L := [some (.ref 52), some (.ref 2), none, none, some (.int v4), some (.int v5), some (.int v6)]) (rest := []) (pc := 81) (fun n => rfl) (s_BM_has hx d (by omega)) rfl rfl ?_
      show zEv _ _ _ (81, [some (.ref 52), some (.ref 2), none, none, some (.int v4), some (.int v5), some (.int v6)], [.int x236]) _ _ _
      obtain ⟨I247, hm_m237, hf⟩ := Option.bind_eq_some_iff.mp hf
      have hJ_m237 : zEv none (d + 1) 55 (114, [some (.ref 52), some (.ref 2), none, none, some (.int v4), some (.int v5), some (.int v6)], []) (zHp I247) v h' := by
        refine zEv_go 2 (f1 := (65, [some (.ref 52), some (.ref 2), none, none, some (.int v4), some (.int v5), some (.int (v6 + 1))], [])) (h1 := zHp I247) (fun n => rfl) ?_
        refine zEv_weak (L := [some (.ref 52), some (.ref 2), none, none, some (.int v4), some (.int v5), some (.int (v6 + 1))]) (by exact ⟨rfl, ⟨rfl, ⟨rfl, ⟨rfl, ⟨rfl, ⟨rfl, ⟨rfl, trivial⟩⟩⟩⟩⟩⟩⟩) ?_
        exact ih hf kk
      clear hf
      refine zEv_if 1 (c := x236 = 0) (f1 := (114, [some (.ref 52), some (.ref 2), none, none, some (.int v4), some (.int v5), some (.int v6)], [])) (f2 := (84, [some (.ref 52), some (.ref 2), none, none, some (.int v4), some (.int v5), some (.int v6)], [])) (h1 := zHp I) (fun n => rfl) (fun hc => ?_) (fun hc => ?_)
      · rw [if_pos hc] at hm_m237
        obtain rfl := Option.some.inj hm_m237
        exact zEv_weak (L := [some (.ref 52), some (.ref 2), none, none, some (.int v4), some (.int v5), some (.int v6)]) (by exact ⟨rfl, ⟨rfl, ⟨rfl, ⟨rfl, ⟨rfl, ⟨rfl, ⟨rfl, trivial⟩⟩⟩⟩⟩⟩⟩) hJ_m237
      · rw [if_neg hc] at hm_m237
        obtain ⟨x245, hx, hm_m237⟩ := Option.bind_eq_some_iff.mp hm_m237
        refine zEv_call 17 (N := 58) (vs := [.ref 52, .int (v5 &&& ((zShl 1 v6) ^^^ (-1))), .int v6]) (v1 := some (.int x245)) (h1 := zHp I) (L := [some (.ref 52), some (.ref 2), none, none, some (.int v4), some (.int v5), some (.int v6)]) (rest := [.int ((v5 * 9) + v6), .ref 57]) (pc := 111) (fun n => rfl) (s_Rd_cheapest hx d (by omega)) rfl rfl ?_
        show zEv _ _ _ (111, [some (.ref 52), some (.ref 2), none, none, some (.int v4), some (.int v5), some (.int v6)], [.int x245, .int ((v5 * 9) + v6), .ref 57]) _ _ _
        obtain ⟨I246, hx, hm_m237⟩ := Option.bind_eq_some_iff.mp hm_m237
        refine zEv_call 1 (N := 61) (vs := [.ref 57, .int ((v5 * 9) + v6), .int x245]) (v1 := none) (h1 := zHp I246) (L := [some (.ref 52), some (.ref 2), none, none, some (.int v4), some (.int v5), some (.int v6)]) (rest := []) (pc := 114) (fun n => rfl) (s_Rw_put_57 hx d (by omega)) rfl rfl ?_
        show zEv _ _ _ (114, [some (.ref 52), some (.ref 2), none, none, some (.int v4), some (.int v5), some (.int v6)], []) _ _ _
        obtain rfl := Option.some.inj hm_m237
        exact zEv_weak (L := [some (.ref 52), some (.ref 2), none, none, some (.int v4), some (.int v5), some (.int v6)]) (by exact ⟨rfl, ⟨rfl, ⟨rfl, ⟨rfl, ⟨rfl, ⟨rfl, ⟨rfl, trivial⟩⟩⟩⟩⟩⟩⟩) hJ_m237
def Rd_shortest_2_L55 : Nat → Int32 → Int32 → zI → Option (zI)
  | 0, _, _, _ => none
  | n + 1, v4, v5, I =>
    if v4 < v5 then
      some I
    else
      (Rd_shortest_2_L65 n v4 v5 0 I).bind fun I248 =>
      Rd_shortest_2_L55 n v4 (v5 + 1) I248
theorem s_Rd_shortest_2_L55 (d : Nat) (hd : 4 ≤ d) : ∀ (n : Nat) {v4 : Int32} {v5 : Int32} {I : zI}  {I' : zI} {v : Option Value} {h' : zH}, Rd_shortest_2_L55 n v4 v5 I = some I' → zEv none d 55 (126, [some (.ref 52), some (.ref 2), none, none, some (.int v4), none, none], []) (zHp I') v h' → zEv none d 55 (55, [some (.ref 52), some (.ref 2), none, none, some (.int v4), some (.int v5), none], []) (zHp I) v h' := by
  obtain ⟨d, rfl⟩ : ∃ e, d = e + 1 := ⟨d - 1, by omega⟩
  intro n
  induction n with
  | zero => intros; rename_i hf _; cases hf
  | succ n ih =>
    intro v4 v5 I I' v h' hf kk
    rw [Rd_shortest_2_L55] at hf
    refine zEv_if 3 (c := v4 < v5) (f1 := (126, [some (.ref 52), some (.ref 2), none, none, some (.int v4), some (.int v5), none], [])) (f2 := (62, [some (.ref 52), some (.ref 2), none, none, some (.int v4), some (.int v5), none], [])) (h1 := zHp I) (fun n => rfl) (fun hc => ?_) (fun hc => ?_)
    · rw [if_pos hc] at hf
      obtain rfl := Option.some.inj hf
      exact zEv_weak (L := [some (.ref 52), some (.ref 2), none, none, some (.int v4), none, none]) (by exact ⟨rfl, ⟨rfl, ⟨rfl, ⟨rfl, ⟨rfl, ⟨rfl, ⟨rfl, trivial⟩⟩⟩⟩⟩⟩⟩) kk
    · rw [if_neg hc] at hf
      obtain ⟨I248, hx, hf⟩ := Option.bind_eq_some_iff.mp hf
      refine zEv_go 2 (f1 := (65, [some (.ref 52), some (.ref 2), none, none, some (.int v4), some (.int v5), some (.int 0)], [])) (h1 := zHp I) (fun n => rfl) ?_
      refine zEv_weak (L := [some (.ref 52), some (.ref 2), none, none, some (.int v4), some (.int v5), some (.int 0)]) (by exact ⟨rfl, ⟨rfl, ⟨rfl, ⟨rfl, ⟨rfl, ⟨rfl, ⟨rfl, trivial⟩⟩⟩⟩⟩⟩⟩) (s_Rd_shortest_2_L65 (d + 1) (by omega) n hx ?_)
      refine zEv_go 2 (f1 := (55, [some (.ref 52), some (.ref 2), none, none, some (.int v4), some (.int (v5 + 1)), none], [])) (h1 := zHp I248) (fun n => rfl) ?_
      refine zEv_weak (L := [some (.ref 52), some (.ref 2), none, none, some (.int v4), some (.int (v5 + 1)), none]) (by exact ⟨rfl, ⟨rfl, ⟨rfl, ⟨rfl, ⟨rfl, ⟨rfl, ⟨rfl, trivial⟩⟩⟩⟩⟩⟩⟩) ?_
      exact ih hf kk
def Rd_shortest_2 (n : Nat) (a0 : Int32) (a1 : Int32) (I : zI) : Option (Int32 × zI) :=
  (Rd_gatherStops n a0 a1 I).bind fun I221 =>
  if (I221 52 3) = 0 then
    some (0, I221)
  else
    (Ga_reachableFrom_2 n a0 I221).bind fun x224 =>
    if (a1 &&& (x224 ^^^ (-1))) = 0 then
      (Rd_measureLegs_2 n I221).bind fun I235 =>
      (Rd_shortest_2_L55 n ((zShl 1 (I235 52 3)) - 1) 1 I235).bind fun I249 =>
      (Rd_cheapest n ((zShl 1 (I235 52 3)) - 1) 9 I249).bind fun x250 =>
      some (x250, I249)
    else
      some ((-6), I221)
theorem s_Rd_shortest_2 {n : Nat} {a0 : Int32} {a1 : Int32} {I : zI} {r : Int32} {I' : zI} (hf : Rd_shortest_2 n a0 a1 I = some (r, I')) (d : Nat) (hd : 4 ≤ d) : zCall d 55 [.ref 52, .ref 2, .int a0, .int a1] (zHp I) (some (.int r)) (zHp I') := by
  obtain ⟨d, rfl⟩ : ∃ e, d = e + 1 := ⟨d - 1, by omega⟩
  rw [Rd_shortest_2] at hf
  show zEv _ _ _ (0, [some (.ref 52), some (.ref 2), some (.int a0), some (.int a1), none, none, none], []) _ _ _
  obtain ⟨I221, hx, hf⟩ := Option.bind_eq_some_iff.mp hf
  refine zEv_call 6 (N := 56) (vs := [.ref 52, .int a0, .int a1]) (v1 := none) (h1 := zHp I221) (L := [some (.ref 52), some (.ref 2), some (.int a0), some (.int a1), none, none, none]) (rest := []) (pc := 13) (fun n => rfl) (s_Rd_gatherStops hx d (by omega)) rfl rfl ?_
  show zEv _ _ _ (13, [some (.ref 52), some (.ref 2), some (.int a0), some (.int a1), none, none, none], []) _ _ _
  refine zEv_if 3 (c := (I221 52 3) = 0) (f1 := (20, [some (.ref 52), some (.ref 2), some (.int a0), some (.int a1), none, none, none], [])) (f2 := (22, [some (.ref 52), some (.ref 2), some (.int a0), some (.int a1), none, none, none], [])) (h1 := zHp I221) (fun n => rfl) (fun hc => ?_) (fun hc => ?_)
  · rw [if_pos hc] at hf
    cases hf
    exact zEv_ret 2 (fun n => rfl)
  · rw [if_neg hc] at hf
    obtain ⟨x224, hx, hf⟩ := Option.bind_eq_some_iff.mp hf
    refine zEv_call 4 (N := 16) (vs := [.ref 2, .int a0]) (v1 := some (.int x224)) (h1 := zHp I221) (L := [some (.ref 52), some (.ref 2), some (.int a0), some (.int a1), none, none, none]) (rest := [.int a1]) (pc := 28) (fun n => rfl) (s_Ga_reachableFrom_2 hx d (by omega)) rfl rfl ?_
    show zEv _ _ _ (28, [some (.ref 52), some (.ref 2), some (.int a0), some (.int a1), none, none, none], [.int x224, .int a1]) _ _ _
    refine zEv_if 4 (c := (a1 &&& (x224 ^^^ (-1))) = 0) (f1 := (37, [some (.ref 52), some (.ref 2), some (.int a0), some (.int a1), none, none, none], [])) (f2 := (34, [some (.ref 52), some (.ref 2), some (.int a0), some (.int a1), none, none, none], [])) (h1 := zHp I221) (fun n => rfl) (fun hc => ?_) (fun hc => ?_)
    · rw [if_pos hc] at hf
      obtain ⟨I235, hx, hf⟩ := Option.bind_eq_some_iff.mp hf
      refine zEv_call 3 (N := 57) (vs := [.ref 52, .ref 2]) (v1 := none) (h1 := zHp I235) (L := [some (.ref 52), some (.ref 2), some (.int a0), some (.int a1), none, none, none]) (rest := []) (pc := 42) (fun n => rfl) (s_Rd_measureLegs_2 hx d (by omega)) rfl rfl ?_
      show zEv _ _ _ (42, [some (.ref 52), some (.ref 2), some (.int a0), some (.int a1), none, none, none], []) _ _ _
      obtain ⟨I249, hx, hf⟩ := Option.bind_eq_some_iff.mp hf
      refine zEv_go 9 (f1 := (55, [some (.ref 52), some (.ref 2), some (.int a0), some (.int a1), some (.int ((zShl 1 (I235 52 3)) - 1)), some (.int 1), none], [])) (h1 := zHp I235) (fun n => rfl) ?_
      refine zEv_weak (L := [some (.ref 52), some (.ref 2), none, none, some (.int ((zShl 1 (I235 52 3)) - 1)), some (.int 1), none]) (by exact ⟨rfl, ⟨rfl, ⟨rfl, ⟨rfl, ⟨rfl, ⟨rfl, ⟨rfl, trivial⟩⟩⟩⟩⟩⟩⟩) (s_Rd_shortest_2_L55 (d + 1) (by omega) n hx ?_)
      obtain ⟨x250, hx, hf⟩ := Option.bind_eq_some_iff.mp hf
      refine zEv_call 4 (N := 58) (vs := [.ref 52, .int ((zShl 1 (I235 52 3)) - 1), .int 9]) (v1 := some (.int x250)) (h1 := zHp I249) (L := [some (.ref 52), some (.ref 2), none, none, some (.int ((zShl 1 (I235 52 3)) - 1)), none, none]) (rest := []) (pc := 134) (fun n => rfl) (s_Rd_cheapest hx d (by omega)) rfl rfl ?_
      show zEv _ _ _ (134, [some (.ref 52), some (.ref 2), none, none, some (.int ((zShl 1 (I235 52 3)) - 1)), none, none], [.int x250]) _ _ _
      cases hf
      exact zEv_ret 1 (fun n => rfl)
    · rw [if_neg hc] at hf
      cases hf
      exact zEv_ret 2 (fun n => rfl)
def BM_round (n : Nat) (a0 : Int32) (a1 : Int32) (I : zI) : Option (Int32 × zI) :=
  (BM_isBench a0 I).bind fun x213 =>
  if x213 = 0 then
    some ((-1), I)
  else
    (BM_isWithin a1 0 1023 I).bind fun x214 =>
    if x214 = 0 then
      some ((-2), I)
    else
      (Rd_shortest_2 n a0 a1 I).bind fun (x251, I252) =>
      some (x251, I252)
theorem s_BM_round {n : Nat} {a0 : Int32} {a1 : Int32} {I : zI} {r : Int32} {I' : zI} (hf : BM_round n a0 a1 I = some (r, I')) (d : Nat) (hd : 5 ≤ d) : zCall d 95 [.ref 1, .int a0, .int a1] (zHp I) (some (.int r)) (zHp I') := by
  obtain ⟨d, rfl⟩ : ∃ e, d = e + 1 := ⟨d - 1, by omega⟩
  rw [BM_round] at hf
  show zEv _ _ _ (0, [some (.ref 1), some (.int a0), some (.int a1)], []) _ _ _
  obtain ⟨x213, hx, hf⟩ := Option.bind_eq_some_iff.mp hf
  refine zEv_call 2 (N := 110) (vs := [.int a0]) (v1 := some (.int x213)) (h1 := zHp I) (L := [some (.ref 1), some (.int a0), some (.int a1)]) (rest := []) (pc := 4) (fun n => rfl) (s_BM_isBench hx d (by omega)) rfl rfl ?_
  show zEv _ _ _ (4, [some (.ref 1), some (.int a0), some (.int a1)], [.int x213]) _ _ _
  refine zEv_if 1 (c := x213 = 0) (f1 := (7, [some (.ref 1), some (.int a0), some (.int a1)], [])) (f2 := (9, [some (.ref 1), some (.int a0), some (.int a1)], [])) (h1 := zHp I) (fun n => rfl) (fun hc => ?_) (fun hc => ?_)
  · rw [if_pos hc] at hf
    cases hf
    exact zEv_ret 2 (fun n => rfl)
  · rw [if_neg hc] at hf
    obtain ⟨x214, hx, hf⟩ := Option.bind_eq_some_iff.mp hf
    refine zEv_call 4 (N := 109) (vs := [.int a1, .int 0, .int 1023]) (v1 := some (.int x214)) (h1 := zHp I) (L := [some (.ref 1), some (.int a0), some (.int a1)]) (rest := []) (pc := 17) (fun n => rfl) (s_BM_isWithin hx d (by omega)) rfl rfl ?_
    show zEv _ _ _ (17, [some (.ref 1), some (.int a0), some (.int a1)], [.int x214]) _ _ _
    refine zEv_if 1 (c := x214 = 0) (f1 := (20, [some (.ref 1), some (.int a0), some (.int a1)], [])) (f2 := (23, [some (.ref 1), some (.int a0), some (.int a1)], [])) (h1 := zHp I) (fun n => rfl) (fun hc => ?_) (fun hc => ?_)
    · rw [if_pos hc] at hf
      cases hf
      exact zEv_ret 2 (fun n => rfl)
    · rw [if_neg hc] at hf
      obtain ⟨⟨x251, I252⟩, hx, hf⟩ := Option.bind_eq_some_iff.mp hf
      dsimp only at hf
      refine zEv_call 7 (N := 55) (vs := [.ref 52, .ref 2, .int a0, .int a1]) (v1 := some (.int x251)) (h1 := zHp I252) (L := [some (.ref 1), some (.int a0), some (.int a1)]) (rest := []) (pc := 36) (fun n => rfl) (s_Rd_shortest_2 hx d (by omega)) rfl rfl ?_
      show zEv _ _ _ (36, [some (.ref 1), some (.int a0), some (.int a1)], [.int x251]) _ _ _
      cases hf
      exact zEv_ret 1 (fun n => rfl)
def Rw_at_60  (a0 : Int32) (I : zI) : Option (Int32) :=
  if a0 < 0 then
    some (-6)
  else
    if 1024 ≤ a0 then
      some (-6)
    else
      if zIn a0 1024 then
        some (I 61 (Int32.toNatClampNeg a0))
      else none
theorem s_Rw_at_60  {a0 : Int32} {I : zI} {r : Int32} (hf : Rw_at_60 a0 I = some r) (d : Nat) (hd : 0 ≤ d) : zCall d 60 [.ref 60, .int a0] (zHp I) (some (.int r)) (zHp I) := by
  rw [Rw_at_60] at hf
  show zEv _ _ _ (0, [some (.ref 60), some (.int a0)], []) _ _ _
  refine zEv_if 2 (c := a0 < 0) (f1 := (22, [some (.ref 60), some (.int a0)], [])) (f2 := (4, [some (.ref 60), some (.int a0)], [])) (h1 := zHp I) (fun n => rfl) (fun hc => ?_) (fun hc => ?_)
  · rw [if_pos hc] at hf
    cases hf
    exact zEv_ret 2 (fun n => rfl)
  · rw [if_neg hc] at hf
    refine zEv_if 5 (c := 1024 ≤ a0) (f1 := (22, [some (.ref 60), some (.int a0)], [])) (f2 := (13, [some (.ref 60), some (.int a0)], [])) (h1 := zHp I) (fun n => rfl) (fun hc => ?_) (fun hc => ?_)
    · rw [if_pos hc] at hf
      cases hf
      exact zEv_ret 2 (fun n => rfl)
    · rw [if_neg hc] at hf
      obtain ⟨hc, hf⟩ := zGd_inv hf
      refine zEv_gd 4 (c := zIn a0 1024) (f1 := (19, [some (.ref 60), some (.int a0)], [.int (I 61 (Int32.toNatClampNeg a0))])) (h1 := zHp I) (fun n => rfl) hc ?_
      cases hf
      exact zEv_ret 2 (fun n => rfl)
def Ga_waysFrom_2  (a0 : Int32) (I : zI) : Option (Int32) :=
  (Rw_at_3 a0 I).bind fun x261 =>
  some x261
theorem s_Ga_waysFrom_2  {a0 : Int32} {I : zI} {r : Int32} (hf : Ga_waysFrom_2 a0 I = some r) (d : Nat) (hd : 1 ≤ d) : zCall d 11 [.ref 2, .int a0] (zHp I) (some (.int r)) (zHp I) := by
  obtain ⟨d, rfl⟩ : ∃ e, d = e + 1 := ⟨d - 1, by omega⟩
  rw [Ga_waysFrom_2] at hf
  show zEv _ _ _ (0, [some (.ref 2), some (.int a0)], []) _ _ _
  obtain ⟨x261, hx, hf⟩ := Option.bind_eq_some_iff.mp hf
  refine zEv_call 4 (N := 60) (vs := [.ref 3, .int a0]) (v1 := some (.int x261)) (h1 := zHp I) (L := [some (.ref 2), some (.int a0)]) (rest := []) (pc := 8) (fun n => rfl) (s_Rw_at_3 hx d (by omega)) rfl rfl ?_
  show zEv _ _ _ (8, [some (.ref 2), some (.int a0)], [.int x261]) _ _ _
  cases hf
  exact zEv_ret 1 (fun n => rfl)
def Wa_startsOf_2_L5 : Nat → Int32 → Int32 → Int32 → zI → Option (Int32)
  | 0, _, _, _, _ => none
  | n + 1, v2, v3, v4, I =>
    if 10 ≤ v4 then
      some v3
    else
      (BM_has v2 v4 I).bind fun x257 =>
      (
        if x257 = 0 then
          some v3
        else
          (
            if (v2 &&& ((zShl 1 v4) ^^^ (-1))) = 0 then
              some 1
            else
              (Rw_at_60 (v2 &&& ((zShl 1 v4) ^^^ (-1))) I).bind fun x260 =>
              (Ga_waysFrom_2 v4 I).bind fun x262 =>
              if (x260 &&& x262) = 0 then
                some 0
              else
                some 1 : Option (Int32)).bind fun x263 =>
          (
            if x263 = 0 then
              some 0
            else
              some (zShl 1 v4) : Option (Int32)).bind fun x265 =>
          some (v3 ||| x265) : Option (Int32)).bind fun x266 =>
      Wa_startsOf_2_L5 n v2 x266 (v4 + 1) I
theorem s_Wa_startsOf_2_L5 (d : Nat) (hd : 2 ≤ d) : ∀ (n : Nat) {v2 : Int32} {v3 : Int32} {v4 : Int32} {I : zI} {y3 : Int32} {v : Option Value} {h' : zH}, Wa_startsOf_2_L5 n v2 v3 v4 I = some y3 → zEv none d 74 (84, [some (.ref 59), some (.ref 2), none, some (.int y3), none, none, none], []) (zHp I) v h' → zEv none d 74 (5, [some (.ref 59), some (.ref 2), some (.int v2), some (.int v3), some (.int v4), none, none], []) (zHp I) v h' := by
  obtain ⟨d, rfl⟩ : ∃ e, d = e + 1 := ⟨d - 1, by omega⟩
  intro n
  induction n with
  | zero => intros; rename_i hf _; cases hf
  | succ n ih =>
    intro v2 v3 v4 I y3 v h' hf kk
    rw [Wa_startsOf_2_L5] at hf
    refine zEv_if 3 (c := 10 ≤ v4) (f1 := (84, [some (.ref 59), some (.ref 2), some (.int v2), some (.int v3), some (.int v4), none, none], [])) (f2 := (12, [some (.ref 59), some (.ref 2), some (.int v2), some (.int v3), some (.int v4), none, none], [])) (h1 := zHp I) (fun n => rfl) (fun hc => ?_) (fun hc => ?_)
    · rw [if_pos hc] at hf
      obtain rfl := Option.some.inj hf
      exact zEv_weak (L := [some (.ref 59), some (.ref 2), none, some (.int v3), none, none, none]) (by exact ⟨rfl, ⟨rfl, ⟨rfl, ⟨rfl, ⟨rfl, ⟨rfl, ⟨rfl, trivial⟩⟩⟩⟩⟩⟩⟩) kk
    · rw [if_neg hc] at hf
      obtain ⟨x257, hx, hf⟩ := Option.bind_eq_some_iff.mp hf
      refine zEv_call 3 (N := 113) (vs := [.int v2, .int v4]) (v1 := some (.int x257)) (h1 := zHp I) (L := [some (.ref 59), some (.ref 2), some (.int v2), some (.int v3), some (.int v4), none, none]) (rest := []) (pc := 18) (fun n => rfl) (s_BM_has hx d (by omega)) rfl rfl ?_
      show zEv _ _ _ (18, [some (.ref 59), some (.ref 2), some (.int v2), some (.int v3), some (.int v4), none, none], [.int x257]) _ _ _
      obtain ⟨x266, hm_m258, hf⟩ := Option.bind_eq_some_iff.mp hf
      have hJ_m258 : zEv none (d + 1) 74 (78, [some (.ref 59), some (.ref 2), some (.int v2), some (.int x266), some (.int v4), none, none], []) (zHp I) v h' := by
        refine zEv_go 2 (f1 := (5, [some (.ref 59), some (.ref 2), some (.int v2), some (.int x266), some (.int (v4 + 1)), none, none], [])) (h1 := zHp I) (fun n => rfl) ?_
        refine zEv_weak (L := [some (.ref 59), some (.ref 2), some (.int v2), some (.int x266), some (.int (v4 + 1)), none, none]) (by exact ⟨rfl, ⟨rfl, ⟨rfl, ⟨rfl, ⟨rfl, ⟨rfl, ⟨rfl, trivial⟩⟩⟩⟩⟩⟩⟩) ?_
        exact ih hf kk
      clear hf
      refine zEv_if 1 (c := x257 = 0) (f1 := (78, [some (.ref 59), some (.ref 2), some (.int v2), some (.int v3), some (.int v4), none, none], [])) (f2 := (21, [some (.ref 59), some (.ref 2), some (.int v2), some (.int v3), some (.int v4), none, none], [])) (h1 := zHp I) (fun n => rfl) (fun hc => ?_) (fun hc => ?_)
      · rw [if_pos hc] at hm_m258
        obtain rfl := Option.some.inj hm_m258
        exact zEv_weak (L := [some (.ref 59), some (.ref 2), some (.int v2), some (.int v3), some (.int v4), none, none]) (by exact ⟨rfl, ⟨rfl, ⟨rfl, ⟨rfl, ⟨rfl, ⟨rfl, ⟨rfl, trivial⟩⟩⟩⟩⟩⟩⟩) hJ_m258
      · rw [if_neg hc] at hm_m258
        obtain ⟨x263, hm_m259, hm_m258⟩ := Option.bind_eq_some_iff.mp hm_m258
        have hJ_m259 : zEv none (d + 1) 74 (60, [some (.ref 59), some (.ref 2), some (.int v2), some (.int v3), some (.int v4), none, none], [.int x263]) (zHp I) v h' := by
          obtain ⟨x265, hm_m264, hm_m258⟩ := Option.bind_eq_some_iff.mp hm_m258
          have hJ_m264 : zEv none (d + 1) 74 (76, [some (.ref 59), some (.ref 2), some (.int v2), none, some (.int v4), none, none], [.int x265, .int v3]) (zHp I) v h' := by
            obtain rfl := Option.some.inj hm_m258
            refine zEv_go 2 (f1 := (78, [some (.ref 59), some (.ref 2), some (.int v2), some (.int (v3 ||| x265)), some (.int v4), none, none], [])) (h1 := zHp I) (fun n => rfl) ?_
            exact zEv_weak (L := [some (.ref 59), some (.ref 2), some (.int v2), some (.int (v3 ||| x265)), some (.int v4), none, none]) (by exact ⟨rfl, ⟨rfl, ⟨rfl, ⟨rfl, ⟨rfl, ⟨rfl, ⟨rfl, trivial⟩⟩⟩⟩⟩⟩⟩) hJ_m258
          clear hm_m258
          refine zEv_if 4 (c := x263 = 0) (f1 := (75, [some (.ref 59), some (.ref 2), some (.int v2), some (.int v3), some (.int v4), none, some (.int x263)], [.int v3])) (f2 := (68, [some (.ref 59), some (.ref 2), some (.int v2), some (.int v3), some (.int v4), none, some (.int x263)], [.int v3])) (h1 := zHp I) (fun n => rfl) (fun hc => ?_) (fun hc => ?_)
          · rw [if_pos hc] at hm_m264
            obtain rfl := Option.some.inj hm_m264
            refine zEv_go 1 (f1 := (76, [some (.ref 59), some (.ref 2), some (.int v2), some (.int v3), some (.int v4), none, some (.int x263)], [.int 0, .int v3])) (h1 := zHp I) (fun n => rfl) ?_
            exact zEv_weak (L := [some (.ref 59), some (.ref 2), some (.int v2), none, some (.int v4), none, none]) (by exact ⟨rfl, ⟨rfl, ⟨rfl, ⟨rfl, ⟨rfl, ⟨rfl, ⟨rfl, trivial⟩⟩⟩⟩⟩⟩⟩) hJ_m264
          · rw [if_neg hc] at hm_m264
            obtain rfl := Option.some.inj hm_m264
            refine zEv_go 4 (f1 := (76, [some (.ref 59), some (.ref 2), some (.int v2), some (.int v3), some (.int v4), none, some (.int x263)], [.int (zShl 1 v4), .int v3])) (h1 := zHp I) (fun n => rfl) ?_
            exact zEv_weak (L := [some (.ref 59), some (.ref 2), some (.int v2), none, some (.int v4), none, none]) (by exact ⟨rfl, ⟨rfl, ⟨rfl, ⟨rfl, ⟨rfl, ⟨rfl, ⟨rfl, trivial⟩⟩⟩⟩⟩⟩⟩) hJ_m264
        clear hm_m258
        refine zEv_if 10 (c := (v2 &&& ((zShl 1 v4) ^^^ (-1))) = 0) (f1 := (55, [some (.ref 59), some (.ref 2), some (.int v2), some (.int v3), some (.int v4), some (.int (v2 &&& ((zShl 1 v4) ^^^ (-1)))), none], [])) (f2 := (36, [some (.ref 59), some (.ref 2), some (.int v2), some (.int v3), some (.int v4), some (.int (v2 &&& ((zShl 1 v4) ^^^ (-1)))), none], [])) (h1 := zHp I) (fun n => rfl) (fun hc => ?_) (fun hc => ?_)
        · rw [if_pos hc] at hm_m259
          obtain rfl := Option.some.inj hm_m259
          refine zEv_go 2 (f1 := (60, [some (.ref 59), some (.ref 2), some (.int v2), some (.int v3), some (.int v4), some (.int (v2 &&& ((zShl 1 v4) ^^^ (-1)))), none], [.int 1])) (h1 := zHp I) (fun n => rfl) ?_
          exact zEv_weak (L := [some (.ref 59), some (.ref 2), some (.int v2), some (.int v3), some (.int v4), none, none]) (by exact ⟨rfl, ⟨rfl, ⟨rfl, ⟨rfl, ⟨rfl, ⟨rfl, ⟨rfl, trivial⟩⟩⟩⟩⟩⟩⟩) hJ_m259
        · rw [if_neg hc] at hm_m259
          obtain ⟨x260, hx, hm_m259⟩ := Option.bind_eq_some_iff.mp hm_m259
          refine zEv_call 4 (N := 60) (vs := [.ref 60, .int (v2 &&& ((zShl 1 v4) ^^^ (-1)))]) (v1 := some (.int x260)) (h1 := zHp I) (L := [some (.ref 59), some (.ref 2), some (.int v2), some (.int v3), some (.int v4), some (.int (v2 &&& ((zShl 1 v4) ^^^ (-1)))), none]) (rest := []) (pc := 45) (fun n => rfl) (s_Rw_at_60 hx d (by omega)) rfl rfl ?_
          show zEv _ _ _ (45, [some (.ref 59), some (.ref 2), some (.int v2), some (.int v3), some (.int v4), some (.int (v2 &&& ((zShl 1 v4) ^^^ (-1)))), none], [.int x260]) _ _ _
          obtain ⟨x262, hx, hm_m259⟩ := Option.bind_eq_some_iff.mp hm_m259
          refine zEv_call 3 (N := 11) (vs := [.ref 2, .int v4]) (v1 := some (.int x262)) (h1 := zHp I) (L := [some (.ref 59), some (.ref 2), some (.int v2), some (.int v3), some (.int v4), some (.int (v2 &&& ((zShl 1 v4) ^^^ (-1)))), none]) (rest := [.int x260]) (pc := 51) (fun n => rfl) (s_Ga_waysFrom_2 hx d (by omega)) rfl rfl ?_
          show zEv _ _ _ (51, [some (.ref 59), some (.ref 2), some (.int v2), some (.int v3), some (.int v4), some (.int (v2 &&& ((zShl 1 v4) ^^^ (-1)))), none], [.int x262, .int x260]) _ _ _
          refine zEv_if 2 (c := (x260 &&& x262) = 0) (f1 := (59, [some (.ref 59), some (.ref 2), some (.int v2), some (.int v3), some (.int v4), some (.int (v2 &&& ((zShl 1 v4) ^^^ (-1)))), none], [])) (f2 := (55, [some (.ref 59), some (.ref 2), some (.int v2), some (.int v3), some (.int v4), some (.int (v2 &&& ((zShl 1 v4) ^^^ (-1)))), none], [])) (h1 := zHp I) (fun n => rfl) (fun hc => ?_) (fun hc => ?_)
          · rw [if_pos hc] at hm_m259
            obtain rfl := Option.some.inj hm_m259
            refine zEv_go 1 (f1 := (60, [some (.ref 59), some (.ref 2), some (.int v2), some (.int v3), some (.int v4), some (.int (v2 &&& ((zShl 1 v4) ^^^ (-1)))), none], [.int 0])) (h1 := zHp I) (fun n => rfl) ?_
            exact zEv_weak (L := [some (.ref 59), some (.ref 2), some (.int v2), some (.int v3), some (.int v4), none, none]) (by exact ⟨rfl, ⟨rfl, ⟨rfl, ⟨rfl, ⟨rfl, ⟨rfl, ⟨rfl, trivial⟩⟩⟩⟩⟩⟩⟩) hJ_m259
          · rw [if_neg hc] at hm_m259
            obtain rfl := Option.some.inj hm_m259
            refine zEv_go 2 (f1 := (60, [some (.ref 59), some (.ref 2), some (.int v2), some (.int v3), some (.int v4), some (.int (v2 &&& ((zShl 1 v4) ^^^ (-1)))), none], [.int 1])) (h1 := zHp I) (fun n => rfl) ?_
            exact zEv_weak (L := [some (.ref 59), some (.ref 2), some (.int v2), some (.int v3), some (.int v4), none, none]) (by exact ⟨rfl, ⟨rfl, ⟨rfl, ⟨rfl, ⟨rfl, ⟨rfl, ⟨rfl, trivial⟩⟩⟩⟩⟩⟩⟩) hJ_m259
def Wa_startsOf_2 (n : Nat) (a0 : Int32) (I : zI) : Option (Int32) :=
  (Wa_startsOf_2_L5 n a0 0 0 I).bind fun x267 =>
  some x267
theorem s_Wa_startsOf_2 {n : Nat} {a0 : Int32} {I : zI} {r : Int32} (hf : Wa_startsOf_2 n a0 I = some r) (d : Nat) (hd : 2 ≤ d) : zCall d 74 [.ref 59, .ref 2, .int a0] (zHp I) (some (.int r)) (zHp I) := by
  obtain ⟨d, rfl⟩ : ∃ e, d = e + 1 := ⟨d - 1, by omega⟩
  rw [Wa_startsOf_2] at hf
  show zEv _ _ _ (0, [some (.ref 59), some (.ref 2), some (.int a0), none, none, none, none], []) _ _ _
  obtain ⟨x267, hx, hf⟩ := Option.bind_eq_some_iff.mp hf
  refine zEv_go 4 (f1 := (5, [some (.ref 59), some (.ref 2), some (.int a0), some (.int 0), some (.int 0), none, none], [])) (h1 := zHp I) (fun n => rfl) ?_
  refine zEv_weak (L := [some (.ref 59), some (.ref 2), some (.int a0), some (.int 0), some (.int 0), none, none]) (by exact ⟨rfl, ⟨rfl, ⟨rfl, ⟨rfl, ⟨rfl, ⟨rfl, ⟨rfl, trivial⟩⟩⟩⟩⟩⟩⟩) (s_Wa_startsOf_2_L5 (d + 1) (by omega) n hx ?_)
  cases hf
  exact zEv_ret 2 (fun n => rfl)
def Rw_put_60  (a0 : Int32) (a1 : Int32) (I : zI) : Option (zI) :=
  if a0 < 0 then
    some I
  else
    if 1024 ≤ a0 then
      some I
    else
      if zIn a0 1024 then
        some (zUp I 61 (Int32.toNatClampNeg a0) a1)
      else none
theorem s_Rw_put_60  {a0 : Int32} {a1 : Int32} {I : zI} {I' : zI} (hf : Rw_put_60 a0 a1 I = some I') (d : Nat) (hd : 0 ≤ d) : zCall d 61 [.ref 60, .int a0, .int a1] (zHp I) (none) (zHp I') := by
  rw [Rw_put_60] at hf
  show zEv _ _ _ (0, [some (.ref 60), some (.int a0), some (.int a1)], []) _ _ _
  refine zEv_if 2 (c := a0 < 0) (f1 := (20, [some (.ref 60), some (.int a0), some (.int a1)], [])) (f2 := (4, [some (.ref 60), some (.int a0), some (.int a1)], [])) (h1 := zHp I) (fun n => rfl) (fun hc => ?_) (fun hc => ?_)
  · rw [if_pos hc] at hf
    cases hf
    exact zEv_ret 1 (fun n => rfl)
  · rw [if_neg hc] at hf
    refine zEv_if 5 (c := 1024 ≤ a0) (f1 := (20, [some (.ref 60), some (.int a0), some (.int a1)], [])) (f2 := (13, [some (.ref 60), some (.int a0), some (.int a1)], [])) (h1 := zHp I) (fun n => rfl) (fun hc => ?_) (fun hc => ?_)
    · rw [if_pos hc] at hf
      cases hf
      exact zEv_ret 1 (fun n => rfl)
    · rw [if_neg hc] at hf
      obtain ⟨hc, hf⟩ := zGd_inv hf
      refine zEv_gd 5 (c := zIn a0 1024) (f1 := (20, [some (.ref 60), some (.int a0), some (.int a1)], [])) (h1 := zHp (zUp I 61 (Int32.toNatClampNeg a0) a1)) (fun n => rfl) hc ?_
      cases hf
      exact zEv_ret 1 (fun n => rfl)
def Wa_explore_2_L16 : Nat → Int32 → zI → Option (zI)
  | 0, _, _ => none
  | n + 1, v3, I =>
    if 1024 ≤ v3 then
      some I
    else
      (
        if (v3 &&& ((I 59 1) ^^^ (-1))) = 0 then
          (Wa_startsOf_2 n v3 I).bind fun x268 =>
          (Rw_put_60 v3 x268 I).bind fun I269 =>
          some I269
        else
          some I : Option (zI)).bind fun I270 =>
      Wa_explore_2_L16 n (v3 + 1) I270
theorem s_Wa_explore_2_L16 (d : Nat) (hd : 3 ≤ d) : ∀ (n : Nat) {v3 : Int32} {I : zI}  {I' : zI} {v : Option Value} {h' : zH}, Wa_explore_2_L16 n v3 I = some I' → zEv none d 73 (54, [some (.ref 59), some (.ref 2), none, none], []) (zHp I') v h' → zEv none d 73 (16, [some (.ref 59), some (.ref 2), none, some (.int v3)], []) (zHp I) v h' := by
  obtain ⟨d, rfl⟩ : ∃ e, d = e + 1 := ⟨d - 1, by omega⟩
  intro n
  induction n with
  | zero => intros; rename_i hf _; cases hf
  | succ n ih =>
    intro v3 I I' v h' hf kk
    rw [Wa_explore_2_L16] at hf
    refine zEv_if 3 (c := 1024 ≤ v3) (f1 := (54, [some (.ref 59), some (.ref 2), none, some (.int v3)], [])) (f2 := (23, [some (.ref 59), some (.ref 2), none, some (.int v3)], [])) (h1 := zHp I) (fun n => rfl) (fun hc => ?_) (fun hc => ?_)
    · rw [if_pos hc] at hf
      obtain rfl := Option.some.inj hf
      exact zEv_weak (L := [some (.ref 59), some (.ref 2), none, none]) (by exact ⟨rfl, ⟨rfl, ⟨rfl, ⟨rfl, trivial⟩⟩⟩⟩) kk
    · rw [if_neg hc] at hf
      obtain ⟨I270, hm_m256, hf⟩ := Option.bind_eq_some_iff.mp hf
      have hJ_m256 : zEv none (d + 1) 73 (48, [some (.ref 59), some (.ref 2), none, some (.int v3)], []) (zHp I270) v h' := by
        refine zEv_go 2 (f1 := (16, [some (.ref 59), some (.ref 2), none, some (.int (v3 + 1))], [])) (h1 := zHp I270) (fun n => rfl) ?_
        refine zEv_weak (L := [some (.ref 59), some (.ref 2), none, some (.int (v3 + 1))]) (by exact ⟨rfl, ⟨rfl, ⟨rfl, ⟨rfl, trivial⟩⟩⟩⟩) ?_
        exact ih hf kk
      clear hf
      refine zEv_if 7 (c := (v3 &&& ((I 59 1) ^^^ (-1))) = 0) (f1 := (34, [some (.ref 59), some (.ref 2), none, some (.int v3)], [])) (f2 := (48, [some (.ref 59), some (.ref 2), none, some (.int v3)], [])) (h1 := zHp I) (fun n => rfl) (fun hc => ?_) (fun hc => ?_)
      · rw [if_pos hc] at hm_m256
        obtain ⟨x268, hx, hm_m256⟩ := Option.bind_eq_some_iff.mp hm_m256
        refine zEv_call 7 (N := 74) (vs := [.ref 59, .ref 2, .int v3]) (v1 := some (.int x268)) (h1 := zHp I) (L := [some (.ref 59), some (.ref 2), none, some (.int v3)]) (rest := [.int v3, .ref 60]) (pc := 45) (fun n => rfl) (s_Wa_startsOf_2 hx d (by omega)) rfl rfl ?_
        show zEv _ _ _ (45, [some (.ref 59), some (.ref 2), none, some (.int v3)], [.int x268, .int v3, .ref 60]) _ _ _
        obtain ⟨I269, hx, hm_m256⟩ := Option.bind_eq_some_iff.mp hm_m256
        refine zEv_call 1 (N := 61) (vs := [.ref 60, .int v3, .int x268]) (v1 := none) (h1 := zHp I269) (L := [some (.ref 59), some (.ref 2), none, some (.int v3)]) (rest := []) (pc := 48) (fun n => rfl) (s_Rw_put_60 hx d (by omega)) rfl rfl ?_
        show zEv _ _ _ (48, [some (.ref 59), some (.ref 2), none, some (.int v3)], []) _ _ _
        obtain rfl := Option.some.inj hm_m256
        exact zEv_weak (L := [some (.ref 59), some (.ref 2), none, some (.int v3)]) (by exact ⟨rfl, ⟨rfl, ⟨rfl, ⟨rfl, trivial⟩⟩⟩⟩) hJ_m256
      · rw [if_neg hc] at hm_m256
        obtain rfl := Option.some.inj hm_m256
        exact zEv_weak (L := [some (.ref 59), some (.ref 2), none, some (.int v3)]) (by exact ⟨rfl, ⟨rfl, ⟨rfl, ⟨rfl, trivial⟩⟩⟩⟩) hJ_m256
def Wa_explore_2 (n : Nat) (a0 : Int32) (I : zI) : Option (zI) :=
  (Ga_reachableFrom_2 n a0 I).bind fun x255 =>
  (Wa_explore_2_L16 n 1 (zUp I 59 1 x255)).bind fun I271 =>
  some I271
theorem s_Wa_explore_2 {n : Nat} {a0 : Int32} {I : zI} {I' : zI} (hf : Wa_explore_2 n a0 I = some I') (d : Nat) (hd : 3 ≤ d) : zCall d 73 [.ref 59, .ref 2, .int a0] (zHp I) (none) (zHp I') := by
  obtain ⟨d, rfl⟩ : ∃ e, d = e + 1 := ⟨d - 1, by omega⟩
  rw [Wa_explore_2] at hf
  show zEv _ _ _ (0, [some (.ref 59), some (.ref 2), some (.int a0), none], []) _ _ _
  obtain ⟨x255, hx, hf⟩ := Option.bind_eq_some_iff.mp hf
  refine zEv_call 6 (N := 16) (vs := [.ref 2, .int a0]) (v1 := some (.int x255)) (h1 := zHp I) (L := [some (.ref 59), some (.ref 2), some (.int a0), none]) (rest := [.ref 59]) (pc := 11) (fun n => rfl) (s_Ga_reachableFrom_2 hx d (by omega)) rfl rfl ?_
  show zEv _ _ _ (11, [some (.ref 59), some (.ref 2), some (.int a0), none], [.int x255, .ref 59]) _ _ _
  obtain ⟨I271, hx, hf⟩ := Option.bind_eq_some_iff.mp hf
  refine zEv_go 3 (f1 := (16, [some (.ref 59), some (.ref 2), some (.int a0), some (.int 1)], [])) (h1 := zHp (zUp I 59 1 x255)) (fun n => rfl) ?_
  refine zEv_weak (L := [some (.ref 59), some (.ref 2), none, some (.int 1)]) (by exact ⟨rfl, ⟨rfl, ⟨rfl, ⟨rfl, trivial⟩⟩⟩⟩) (s_Wa_explore_2_L16 (d + 1) (by omega) n hx ?_)
  cases hf
  exact zEv_ret 1 (fun n => rfl)
def Wa_longestFrom_L7 : Nat → Int32 → Int32 → Int32 → zI → Option (Int32)
  | 0, _, _, _, _ => none
  | n + 1, v1, v2, v3, I =>
    if v3 ≤ 0 then
      some v2
    else
      (Rw_at_60 v3 I).bind fun x273 =>
      (BM_has x273 v1 I).bind fun x274 =>
      (
        if x274 = 0 then
          some v2
        else
          (In_bitCount v3 I).bind fun x276 =>
          some (if v2 < x276 then x276 else v2) : Option (Int32)).bind fun x277 =>
      Wa_longestFrom_L7 n v1 x277 ((v3 - 1) &&& (I 59 1)) I
theorem s_Wa_longestFrom_L7 (d : Nat) (hd : 1 ≤ d) : ∀ (n : Nat) {v1 : Int32} {v2 : Int32} {v3 : Int32} {I : zI} {y2 : Int32} {v : Option Value} {h' : zH}, Wa_longestFrom_L7 n v1 v2 v3 I = some y2 → zEv none d 75 (47, [some (.ref 59), none, some (.int y2), none], []) (zHp I) v h' → zEv none d 75 (7, [some (.ref 59), some (.int v1), some (.int v2), some (.int v3)], []) (zHp I) v h' := by
  obtain ⟨d, rfl⟩ : ∃ e, d = e + 1 := ⟨d - 1, by omega⟩
  intro n
  induction n with
  | zero => intros; rename_i hf _; cases hf
  | succ n ih =>
    intro v1 v2 v3 I y2 v h' hf kk
    rw [Wa_longestFrom_L7] at hf
    refine zEv_if 2 (c := v3 ≤ 0) (f1 := (47, [some (.ref 59), some (.int v1), some (.int v2), some (.int v3)], [])) (f2 := (11, [some (.ref 59), some (.int v1), some (.int v2), some (.int v3)], [])) (h1 := zHp I) (fun n => rfl) (fun hc => ?_) (fun hc => ?_)
    · rw [if_pos hc] at hf
      obtain rfl := Option.some.inj hf
      exact zEv_weak (L := [some (.ref 59), none, some (.int v2), none]) (by exact ⟨rfl, ⟨rfl, ⟨rfl, ⟨rfl, trivial⟩⟩⟩⟩) kk
    · rw [if_neg hc] at hf
      obtain ⟨x273, hx, hf⟩ := Option.bind_eq_some_iff.mp hf
      refine zEv_call 4 (N := 60) (vs := [.ref 60, .int v3]) (v1 := some (.int x273)) (h1 := zHp I) (L := [some (.ref 59), some (.int v1), some (.int v2), some (.int v3)]) (rest := []) (pc := 19) (fun n => rfl) (s_Rw_at_60 hx d (by omega)) rfl rfl ?_
      show zEv _ _ _ (19, [some (.ref 59), some (.int v1), some (.int v2), some (.int v3)], [.int x273]) _ _ _
      obtain ⟨x274, hx, hf⟩ := Option.bind_eq_some_iff.mp hf
      refine zEv_call 2 (N := 113) (vs := [.int x273, .int v1]) (v1 := some (.int x274)) (h1 := zHp I) (L := [some (.ref 59), some (.int v1), some (.int v2), some (.int v3)]) (rest := []) (pc := 23) (fun n => rfl) (s_BM_has hx d (by omega)) rfl rfl ?_
      show zEv _ _ _ (23, [some (.ref 59), some (.int v1), some (.int v2), some (.int v3)], [.int x274]) _ _ _
      obtain ⟨x277, hm_m275, hf⟩ := Option.bind_eq_some_iff.mp hf
      have hJ_m275 : zEv none (d + 1) 75 (35, [some (.ref 59), some (.int v1), some (.int x277), some (.int v3)], []) (zHp I) v h' := by
        refine zEv_go 8 (f1 := (7, [some (.ref 59), some (.int v1), some (.int x277), some (.int ((v3 - 1) &&& (I 59 1)))], [])) (h1 := zHp I) (fun n => rfl) ?_
        refine zEv_weak (L := [some (.ref 59), some (.int v1), some (.int x277), some (.int ((v3 - 1) &&& (I 59 1)))]) (by exact ⟨rfl, ⟨rfl, ⟨rfl, ⟨rfl, trivial⟩⟩⟩⟩) ?_
        exact ih hf kk
      clear hf
      refine zEv_if 1 (c := x274 = 0) (f1 := (35, [some (.ref 59), some (.int v1), some (.int v2), some (.int v3)], [])) (f2 := (26, [some (.ref 59), some (.int v1), some (.int v2), some (.int v3)], [])) (h1 := zHp I) (fun n => rfl) (fun hc => ?_) (fun hc => ?_)
      · rw [if_pos hc] at hm_m275
        obtain rfl := Option.some.inj hm_m275
        exact zEv_weak (L := [some (.ref 59), some (.int v1), some (.int v2), some (.int v3)]) (by exact ⟨rfl, ⟨rfl, ⟨rfl, ⟨rfl, trivial⟩⟩⟩⟩) hJ_m275
      · rw [if_neg hc] at hm_m275
        obtain ⟨x276, hx, hm_m275⟩ := Option.bind_eq_some_iff.mp hm_m275
        refine zEv_call 3 (N := 196) (vs := [.int v3]) (v1 := some (.int x276)) (h1 := zHp I) (L := [some (.ref 59), some (.int v1), some (.int v2), some (.int v3)]) (rest := [.int v2]) (pc := 31) (fun n => rfl) (s_In_bitCount hx d (by omega)) rfl rfl ?_
        show zEv _ _ _ (31, [some (.ref 59), some (.int v1), some (.int v2), some (.int v3)], [.int x276, .int v2]) _ _ _
        obtain rfl := Option.some.inj hm_m275
        refine zEv_go 2 (f1 := (35, [some (.ref 59), some (.int v1), some (.int (if v2 < x276 then x276 else v2)), some (.int v3)], [])) (h1 := zHp I) (fun n => rfl) ?_
        exact zEv_weak (L := [some (.ref 59), some (.int v1), some (.int (if v2 < x276 then x276 else v2)), some (.int v3)]) (by exact ⟨rfl, ⟨rfl, ⟨rfl, ⟨rfl, trivial⟩⟩⟩⟩) hJ_m275
def Wa_longestFrom (n : Nat) (a0 : Int32) (I : zI) : Option (Int32) :=
  (Wa_longestFrom_L7 n a0 1 (I 59 1) I).bind fun x278 =>
  some (x278 - 1)
theorem s_Wa_longestFrom {n : Nat} {a0 : Int32} {I : zI} {r : Int32} (hf : Wa_longestFrom n a0 I = some r) (d : Nat) (hd : 1 ≤ d) : zCall d 75 [.ref 59, .int a0] (zHp I) (some (.int r)) (zHp I) := by
  obtain ⟨d, rfl⟩ : ∃ e, d = e + 1 := ⟨d - 1, by omega⟩
  rw [Wa_longestFrom] at hf
  show zEv _ _ _ (0, [some (.ref 59), some (.int a0), none, none], []) _ _ _
  obtain ⟨x278, hx, hf⟩ := Option.bind_eq_some_iff.mp hf
  refine zEv_go 5 (f1 := (7, [some (.ref 59), some (.int a0), some (.int 1), some (.int (I 59 1))], [])) (h1 := zHp I) (fun n => rfl) ?_
  refine zEv_weak (L := [some (.ref 59), some (.int a0), some (.int 1), some (.int (I 59 1))]) (by exact ⟨rfl, ⟨rfl, ⟨rfl, ⟨rfl, trivial⟩⟩⟩⟩) (s_Wa_longestFrom_L7 (d + 1) (by omega) n hx ?_)
  cases hf
  exact zEv_ret 4 (fun n => rfl)
def Wa_startsOfWalks_L5 : Nat → Int32 → Int32 → Int32 → Int32 → zI → Option (Int32)
  | 0, _, _, _, _, _ => none
  | n + 1, v1, v2, v3, v4, I =>
    if v4 ≤ 0 then
      some v3
    else
      (In_bitCount v4 I).bind fun x281 =>
      (
        if x281 = v2 then
          (Rw_at_60 v4 I).bind fun x283 =>
          some (v3 ||| x283)
        else
          some v3 : Option (Int32)).bind fun x284 =>
      Wa_startsOfWalks_L5 n v1 v2 x284 ((v4 - 1) &&& v1) I
theorem s_Wa_startsOfWalks_L5 (d : Nat) (hd : 1 ≤ d) : ∀ (n : Nat) {v1 : Int32} {v2 : Int32} {v3 : Int32} {v4 : Int32} {I : zI} {y3 : Int32} {v : Option Value} {h' : zH}, Wa_startsOfWalks_L5 n v1 v2 v3 v4 I = some y3 → zEv none d 77 (42, [some (.ref 59), none, none, some (.int y3), none], []) (zHp I) v h' → zEv none d 77 (5, [some (.ref 59), some (.int v1), some (.int v2), some (.int v3), some (.int v4)], []) (zHp I) v h' := by
  obtain ⟨d, rfl⟩ : ∃ e, d = e + 1 := ⟨d - 1, by omega⟩
  intro n
  induction n with
  | zero => intros; rename_i hf _; cases hf
  | succ n ih =>
    intro v1 v2 v3 v4 I y3 v h' hf kk
    rw [Wa_startsOfWalks_L5] at hf
    refine zEv_if 2 (c := v4 ≤ 0) (f1 := (42, [some (.ref 59), some (.int v1), some (.int v2), some (.int v3), some (.int v4)], [])) (f2 := (10, [some (.ref 59), some (.int v1), some (.int v2), some (.int v3), some (.int v4)], [])) (h1 := zHp I) (fun n => rfl) (fun hc => ?_) (fun hc => ?_)
    · rw [if_pos hc] at hf
      obtain rfl := Option.some.inj hf
      exact zEv_weak (L := [some (.ref 59), none, none, some (.int v3), none]) (by exact ⟨rfl, ⟨rfl, ⟨rfl, ⟨rfl, ⟨rfl, trivial⟩⟩⟩⟩⟩) kk
    · rw [if_neg hc] at hf
      obtain ⟨x281, hx, hf⟩ := Option.bind_eq_some_iff.mp hf
      refine zEv_call 2 (N := 196) (vs := [.int v4]) (v1 := some (.int x281)) (h1 := zHp I) (L := [some (.ref 59), some (.int v1), some (.int v2), some (.int v3), some (.int v4)]) (rest := []) (pc := 15) (fun n => rfl) (s_In_bitCount hx d (by omega)) rfl rfl ?_
      show zEv _ _ _ (15, [some (.ref 59), some (.int v1), some (.int v2), some (.int v3), some (.int v4)], [.int x281]) _ _ _
      obtain ⟨x284, hm_m282, hf⟩ := Option.bind_eq_some_iff.mp hf
      have hJ_m282 : zEv none (d + 1) 77 (31, [some (.ref 59), some (.int v1), some (.int v2), some (.int x284), some (.int v4)], []) (zHp I) v h' := by
        refine zEv_go 7 (f1 := (5, [some (.ref 59), some (.int v1), some (.int v2), some (.int x284), some (.int ((v4 - 1) &&& v1))], [])) (h1 := zHp I) (fun n => rfl) ?_
        refine zEv_weak (L := [some (.ref 59), some (.int v1), some (.int v2), some (.int x284), some (.int ((v4 - 1) &&& v1))]) (by exact ⟨rfl, ⟨rfl, ⟨rfl, ⟨rfl, ⟨rfl, trivial⟩⟩⟩⟩⟩) ?_
        exact ih hf kk
      clear hf
      refine zEv_if 2 (c := x281 = v2) (f1 := (19, [some (.ref 59), some (.int v1), some (.int v2), some (.int v3), some (.int v4)], [])) (f2 := (31, [some (.ref 59), some (.int v1), some (.int v2), some (.int v3), some (.int v4)], [])) (h1 := zHp I) (fun n => rfl) (fun hc => ?_) (fun hc => ?_)
      · rw [if_pos hc] at hm_m282
        obtain ⟨x283, hx, hm_m282⟩ := Option.bind_eq_some_iff.mp hm_m282
        refine zEv_call 5 (N := 60) (vs := [.ref 60, .int v4]) (v1 := some (.int x283)) (h1 := zHp I) (L := [some (.ref 59), some (.int v1), some (.int v2), some (.int v3), some (.int v4)]) (rest := [.int v3]) (pc := 29) (fun n => rfl) (s_Rw_at_60 hx d (by omega)) rfl rfl ?_
        show zEv _ _ _ (29, [some (.ref 59), some (.int v1), some (.int v2), some (.int v3), some (.int v4)], [.int x283, .int v3]) _ _ _
        obtain rfl := Option.some.inj hm_m282
        refine zEv_go 2 (f1 := (31, [some (.ref 59), some (.int v1), some (.int v2), some (.int (v3 ||| x283)), some (.int v4)], [])) (h1 := zHp I) (fun n => rfl) ?_
        exact zEv_weak (L := [some (.ref 59), some (.int v1), some (.int v2), some (.int (v3 ||| x283)), some (.int v4)]) (by exact ⟨rfl, ⟨rfl, ⟨rfl, ⟨rfl, ⟨rfl, trivial⟩⟩⟩⟩⟩) hJ_m282
      · rw [if_neg hc] at hm_m282
        obtain rfl := Option.some.inj hm_m282
        exact zEv_weak (L := [some (.ref 59), some (.int v1), some (.int v2), some (.int v3), some (.int v4)]) (by exact ⟨rfl, ⟨rfl, ⟨rfl, ⟨rfl, ⟨rfl, trivial⟩⟩⟩⟩⟩) hJ_m282
def Wa_startsOfWalks (n : Nat) (a0 : Int32) (a1 : Int32) (I : zI) : Option (Int32) :=
  (Wa_startsOfWalks_L5 n a0 a1 0 a0 I).bind fun x285 =>
  some x285
theorem s_Wa_startsOfWalks {n : Nat} {a0 : Int32} {a1 : Int32} {I : zI} {r : Int32} (hf : Wa_startsOfWalks n a0 a1 I = some r) (d : Nat) (hd : 1 ≤ d) : zCall d 77 [.ref 59, .int a0, .int a1] (zHp I) (some (.int r)) (zHp I) := by
  obtain ⟨d, rfl⟩ : ∃ e, d = e + 1 := ⟨d - 1, by omega⟩
  rw [Wa_startsOfWalks] at hf
  show zEv _ _ _ (0, [some (.ref 59), some (.int a0), some (.int a1), none, none], []) _ _ _
  obtain ⟨x285, hx, hf⟩ := Option.bind_eq_some_iff.mp hf
  refine zEv_go 4 (f1 := (5, [some (.ref 59), some (.int a0), some (.int a1), some (.int 0), some (.int a0)], [])) (h1 := zHp I) (fun n => rfl) ?_
  refine zEv_weak (L := [some (.ref 59), some (.int a0), some (.int a1), some (.int 0), some (.int a0)]) (by exact ⟨rfl, ⟨rfl, ⟨rfl, ⟨rfl, ⟨rfl, trivial⟩⟩⟩⟩⟩) (s_Wa_startsOfWalks_L5 (d + 1) (by omega) n hx ?_)
  cases hf
  exact zEv_ret 2 (fun n => rfl)
def In_ntz  (a0 : Int32) (I : zI) : Option (Int32) :=
  if 0 < ((a0 ^^^ (-1)) &&& (a0 - 1)) then
    (
      if ((a0 ^^^ (-1)) &&& (a0 - 1)) ≤ 65536 then
        some (((a0 ^^^ (-1)) &&& (a0 - 1)), 1)
      else
        some ((zUsh ((a0 ^^^ (-1)) &&& (a0 - 1)) 16), (1 + 16)) : Option (Int32 × Int32)).bind fun (x288, x289) =>
    (
      if x288 ≤ 256 then
        some (x288, x289)
      else
        some ((zUsh x288 8), (x289 + 8)) : Option (Int32 × Int32)).bind fun (x291, x292) =>
    (
      if x291 ≤ 16 then
        some (x291, x292)
      else
        some ((zUsh x291 4), (x292 + 4)) : Option (Int32 × Int32)).bind fun (x294, x295) =>
    (
      if x294 ≤ 4 then
        some (x294, x295)
      else
        some ((zUsh x294 2), (x295 + 2)) : Option (Int32 × Int32)).bind fun (x297, x298) =>
    some (x298 + (zUsh x297 1))
  else
    some (((a0 ^^^ (-1)) &&& (a0 - 1)) &&& 32)
theorem s_In_ntz  {a0 : Int32} {I : zI} {r : Int32} (hf : In_ntz a0 I = some r) (d : Nat) (hd : 0 ≤ d) : zCall d 195 [.int a0] (zHp I) (some (.int r)) (zHp I) := by
  rw [In_ntz] at hf
  show zEv _ _ _ (0, [some (.int a0), none], []) _ _ _
  refine zEv_if 10 (c := 0 < ((a0 ^^^ (-1)) &&& (a0 - 1))) (f1 := (17, [some (.int ((a0 ^^^ (-1)) &&& (a0 - 1))), none], [])) (f2 := (12, [some (.int ((a0 ^^^ (-1)) &&& (a0 - 1))), none], [])) (h1 := zHp I) (fun n => rfl) (fun hc => ?_) (fun hc => ?_)
  · rw [if_pos hc] at hf
    obtain ⟨⟨x288, x289⟩, hm_m287, hf⟩ := Option.bind_eq_some_iff.mp hf
    dsimp only at hf
    have hJ_m287 : zEv none (d) 195 (34, [some (.int x288), some (.int x289)], []) (zHp I) (some (.int r)) (zHp I) := by
      obtain ⟨⟨x291, x292⟩, hm_m290, hf⟩ := Option.bind_eq_some_iff.mp hf
      dsimp only at hf
      have hJ_m290 : zEv none (d) 195 (49, [some (.int x291), some (.int x292)], []) (zHp I) (some (.int r)) (zHp I) := by
        obtain ⟨⟨x294, x295⟩, hm_m293, hf⟩ := Option.bind_eq_some_iff.mp hf
        dsimp only at hf
        have hJ_m293 : zEv none (d) 195 (62, [some (.int x294), some (.int x295)], []) (zHp I) (some (.int r)) (zHp I) := by
          obtain ⟨⟨x297, x298⟩, hm_m296, hf⟩ := Option.bind_eq_some_iff.mp hf
          dsimp only at hf
          have hJ_m296 : zEv none (d) 195 (74, [some (.int x297), some (.int x298)], []) (zHp I) (some (.int r)) (zHp I) := by
            cases hf
            exact zEv_ret 6 (fun n => rfl)
          clear hf
          refine zEv_if 3 (c := x294 ≤ 4) (f1 := (74, [some (.int x294), some (.int x295)], [])) (f2 := (67, [some (.int x294), some (.int x295)], [])) (h1 := zHp I) (fun n => rfl) (fun hc => ?_) (fun hc => ?_)
          · rw [if_pos hc] at hm_m296
            have hq0 := Option.some.inj hm_m296
            obtain ⟨he0, hq1⟩ := Prod.mk.inj hq0
            subst he0
            subst hq1
            exact zEv_weak (L := [some (.int x294), some (.int x295)]) (by exact ⟨rfl, ⟨rfl, trivial⟩⟩) hJ_m296
          · rw [if_neg hc] at hm_m296
            have hq0 := Option.some.inj hm_m296
            obtain ⟨he0, hq1⟩ := Prod.mk.inj hq0
            subst he0
            subst hq1
            refine zEv_go 5 (f1 := (74, [some (.int (zUsh x294 2)), some (.int (x295 + 2))], [])) (h1 := zHp I) (fun n => rfl) ?_
            exact zEv_weak (L := [some (.int (zUsh x294 2)), some (.int (x295 + 2))]) (by exact ⟨rfl, ⟨rfl, trivial⟩⟩) hJ_m296
        clear hf
        refine zEv_if 3 (c := x291 ≤ 16) (f1 := (62, [some (.int x291), some (.int x292)], [])) (f2 := (55, [some (.int x291), some (.int x292)], [])) (h1 := zHp I) (fun n => rfl) (fun hc => ?_) (fun hc => ?_)
        · rw [if_pos hc] at hm_m293
          have hq0 := Option.some.inj hm_m293
          obtain ⟨he0, hq1⟩ := Prod.mk.inj hq0
          subst he0
          subst hq1
          exact zEv_weak (L := [some (.int x291), some (.int x292)]) (by exact ⟨rfl, ⟨rfl, trivial⟩⟩) hJ_m293
        · rw [if_neg hc] at hm_m293
          have hq0 := Option.some.inj hm_m293
          obtain ⟨he0, hq1⟩ := Prod.mk.inj hq0
          subst he0
          subst hq1
          refine zEv_go 5 (f1 := (62, [some (.int (zUsh x291 4)), some (.int (x292 + 4))], [])) (h1 := zHp I) (fun n => rfl) ?_
          exact zEv_weak (L := [some (.int (zUsh x291 4)), some (.int (x292 + 4))]) (by exact ⟨rfl, ⟨rfl, trivial⟩⟩) hJ_m293
      clear hf
      refine zEv_if 3 (c := x288 ≤ 256) (f1 := (49, [some (.int x288), some (.int x289)], [])) (f2 := (41, [some (.int x288), some (.int x289)], [])) (h1 := zHp I) (fun n => rfl) (fun hc => ?_) (fun hc => ?_)
      · rw [if_pos hc] at hm_m290
        have hq0 := Option.some.inj hm_m290
        obtain ⟨he0, hq1⟩ := Prod.mk.inj hq0
        subst he0
        subst hq1
        exact zEv_weak (L := [some (.int x288), some (.int x289)]) (by exact ⟨rfl, ⟨rfl, trivial⟩⟩) hJ_m290
      · rw [if_neg hc] at hm_m290
        have hq0 := Option.some.inj hm_m290
        obtain ⟨he0, hq1⟩ := Prod.mk.inj hq0
        subst he0
        subst hq1
        refine zEv_go 5 (f1 := (49, [some (.int (zUsh x288 8)), some (.int (x289 + 8))], [])) (h1 := zHp I) (fun n => rfl) ?_
        exact zEv_weak (L := [some (.int (zUsh x288 8)), some (.int (x289 + 8))]) (by exact ⟨rfl, ⟨rfl, trivial⟩⟩) hJ_m290
    clear hf
    refine zEv_if 5 (c := ((a0 ^^^ (-1)) &&& (a0 - 1)) ≤ 65536) (f1 := (34, [some (.int ((a0 ^^^ (-1)) &&& (a0 - 1))), some (.int 1)], [])) (f2 := (26, [some (.int ((a0 ^^^ (-1)) &&& (a0 - 1))), some (.int 1)], [])) (h1 := zHp I) (fun n => rfl) (fun hc => ?_) (fun hc => ?_)
    · rw [if_pos hc] at hm_m287
      have hq0 := Option.some.inj hm_m287
      obtain ⟨he0, hq1⟩ := Prod.mk.inj hq0
      subst he0
      subst hq1
      exact zEv_weak (L := [some (.int ((a0 ^^^ (-1)) &&& (a0 - 1))), some (.int 1)]) (by exact ⟨rfl, ⟨rfl, trivial⟩⟩) hJ_m287
    · rw [if_neg hc] at hm_m287
      have hq0 := Option.some.inj hm_m287
      obtain ⟨he0, hq1⟩ := Prod.mk.inj hq0
      subst he0
      subst hq1
      refine zEv_go 5 (f1 := (34, [some (.int (zUsh ((a0 ^^^ (-1)) &&& (a0 - 1)) 16)), some (.int (1 + 16))], [])) (h1 := zHp I) (fun n => rfl) ?_
      exact zEv_weak (L := [some (.int (zUsh ((a0 ^^^ (-1)) &&& (a0 - 1)) 16)), some (.int (1 + 16))]) (by exact ⟨rfl, ⟨rfl, trivial⟩⟩) hJ_m287
  · rw [if_neg hc] at hf
    cases hf
    exact zEv_ret 4 (fun n => rfl)
