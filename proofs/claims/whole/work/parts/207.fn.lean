def Co_drift_2_L11 : Nat → Int32 → Int32 → Int32 → zI → Option (zI)
  | 0, _, _, _, _ => none
  | n + 1, v3, v4, v5, I =>
    if v3 ≤ v5 then
      some I
    else
      (Co_drawAct n (zRem (zRem ((75 * v4) + 74) 65537) 8) (zRem ((zRem ((75 * v4) + 74) 65537) / 8) 8) ((zRem ((75 * v4) + 74) 65537) / 64) I).bind fun I407 =>
      Co_drift_2_L11 n v3 (zRem ((75 * v4) + 74) 65537) (v5 + 1) I407
theorem s_Co_drift_2_L11 (d : Nat) (hd : 5 ≤ d) : ∀ (n : Nat) {v3 : Int32} {v4 : Int32} {v5 : Int32} {I : zI}  {I' : zI} {v : Option Value} {h' : zH}, Co_drift_2_L11 n v3 v4 v5 I = some I' → zEv none d 6 (58, [some (.ref 38), some (.ref 2), none, none, none, none], []) (zHp I') v h' → zEv none d 6 (11, [some (.ref 38), some (.ref 2), none, some (.int v3), some (.int v4), some (.int v5)], []) (zHp I) v h' := by
  obtain ⟨d, rfl⟩ : ∃ e, d = e + 1 := ⟨d - 1, by omega⟩
  intro n
  induction n with
  | zero => intros; rename_i hf _; cases hf
  | succ n ih =>
    intro v3 v4 v5 I I' v h' hf kk
    rw [Co_drift_2_L11] at hf
    refine zEv_if 3 (c := v3 ≤ v5) (f1 := (58, [some (.ref 38), some (.ref 2), none, some (.int v3), some (.int v4), some (.int v5)], [])) (f2 := (17, [some (.ref 38), some (.ref 2), none, some (.int v3), some (.int v4), some (.int v5)], [])) (h1 := zHp I) (fun n => rfl) (fun hc => ?_) (fun hc => ?_)
    · rw [if_pos hc] at hf
      obtain rfl := Option.some.inj hf
      exact zEv_weak (L := [some (.ref 38), some (.ref 2), none, none, none, none]) (by exact ⟨rfl, ⟨rfl, ⟨rfl, ⟨rfl, ⟨rfl, ⟨rfl, trivial⟩⟩⟩⟩⟩⟩) kk
    · rw [if_neg hc] at hf
      obtain ⟨I407, hx, hf⟩ := Option.bind_eq_some_iff.mp hf
      refine zEv_call 21 (N := 7) (vs := [.ref 38, .int (zRem (zRem ((75 * v4) + 74) 65537) 8), .int (zRem ((zRem ((75 * v4) + 74) 65537) / 8) 8), .int ((zRem ((75 * v4) + 74) 65537) / 64)]) (v1 := none) (h1 := zHp I407) (L := [some (.ref 38), some (.ref 2), none, some (.int v3), some (.int (zRem ((75 * v4) + 74) 65537)), some (.int v5)]) (rest := []) (pc := 52) (fun n => rfl) (s_Co_drawAct hx d (by omega)) rfl rfl ?_
      show zEv _ _ _ (52, [some (.ref 38), some (.ref 2), none, some (.int v3), some (.int (zRem ((75 * v4) + 74) 65537)), some (.int v5)], []) _ _ _
      refine zEv_go 2 (f1 := (11, [some (.ref 38), some (.ref 2), none, some (.int v3), some (.int (zRem ((75 * v4) + 74) 65537)), some (.int (v5 + 1))], [])) (h1 := zHp I407) (fun n => rfl) ?_
      refine zEv_weak (L := [some (.ref 38), some (.ref 2), none, some (.int v3), some (.int (zRem ((75 * v4) + 74) 65537)), some (.int (v5 + 1))]) (by exact ⟨rfl, ⟨rfl, ⟨rfl, ⟨rfl, ⟨rfl, ⟨rfl, trivial⟩⟩⟩⟩⟩⟩) ?_
      exact ih hf kk
def Co_drift_2 (n : Nat) (a0 : Int32) (a1 : Int32) (I : zI) : Option (zI) :=
  (Co_begin_2 n I).bind fun I396 =>
  (Co_drift_2_L11 n a1 a0 0 I396).bind fun I408 =>
  some I408
theorem s_Co_drift_2 {n : Nat} {a0 : Int32} {a1 : Int32} {I : zI} {I' : zI} (hf : Co_drift_2 n a0 a1 I = some I') (d : Nat) (hd : 5 ≤ d) : zCall d 6 [.ref 38, .ref 2, .int a0, .int a1] (zHp I) (none) (zHp I') := by
  obtain ⟨d, rfl⟩ : ∃ e, d = e + 1 := ⟨d - 1, by omega⟩
  rw [Co_drift_2] at hf
  show zEv _ _ _ (0, [some (.ref 38), some (.ref 2), some (.int a0), some (.int a1), none, none], []) _ _ _
  obtain ⟨I396, hx, hf⟩ := Option.bind_eq_some_iff.mp hf
  refine zEv_call 3 (N := 2) (vs := [.ref 38, .ref 2]) (v1 := none) (h1 := zHp I396) (L := [some (.ref 38), some (.ref 2), some (.int a0), some (.int a1), none, none]) (rest := []) (pc := 5) (fun n => rfl) (s_Co_begin_2 hx d (by omega)) rfl rfl ?_
  show zEv _ _ _ (5, [some (.ref 38), some (.ref 2), some (.int a0), some (.int a1), none, none], []) _ _ _
  obtain ⟨I408, hx, hf⟩ := Option.bind_eq_some_iff.mp hf
  refine zEv_go 4 (f1 := (11, [some (.ref 38), some (.ref 2), some (.int a0), some (.int a1), some (.int a0), some (.int 0)], [])) (h1 := zHp I396) (fun n => rfl) ?_
  refine zEv_weak (L := [some (.ref 38), some (.ref 2), none, some (.int a1), some (.int a0), some (.int 0)]) (by exact ⟨rfl, ⟨rfl, ⟨rfl, ⟨rfl, ⟨rfl, ⟨rfl, trivial⟩⟩⟩⟩⟩⟩) (s_Co_drift_2_L11 (d + 1) (by omega) n hx ?_)
  cases hf
  exact zEv_ret 1 (fun n => rfl)
def Ga_countNowhere_39_L4 : Nat → Int32 → Int32 → zI → Option (Int32)
  | 0, _, _, _ => none
  | n + 1, v1, v2, I =>
    if 12 ≤ v2 then
      some v1
    else
      (Rw_at_44 v2 I).bind fun x410 =>
      (
        if x410 = (-6) then
          some 1
        else
          some 0 : Option (Int32)).bind fun x412 =>
      Ga_countNowhere_39_L4 n (v1 + x412) (v2 + 1) I
theorem s_Ga_countNowhere_39_L4 (d : Nat) (hd : 1 ≤ d) : ∀ (n : Nat) {v1 : Int32} {v2 : Int32} {I : zI} {y1 : Int32} {v : Option Value} {h' : zH}, Ga_countNowhere_39_L4 n v1 v2 I = some y1 → zEv none d 28 (37, [some (.ref 39), some (.int y1), none], []) (zHp I) v h' → zEv none d 28 (4, [some (.ref 39), some (.int v1), some (.int v2)], []) (zHp I) v h' := by
  obtain ⟨d, rfl⟩ : ∃ e, d = e + 1 := ⟨d - 1, by omega⟩
  intro n
  induction n with
  | zero => intros; rename_i hf _; cases hf
  | succ n ih =>
    intro v1 v2 I y1 v h' hf kk
    rw [Ga_countNowhere_39_L4] at hf
    refine zEv_if 3 (c := 12 ≤ v2) (f1 := (37, [some (.ref 39), some (.int v1), some (.int v2)], [])) (f2 := (10, [some (.ref 39), some (.int v1), some (.int v2)], [])) (h1 := zHp I) (fun n => rfl) (fun hc => ?_) (fun hc => ?_)
    · rw [if_pos hc] at hf
      obtain rfl := Option.some.inj hf
      exact zEv_weak (L := [some (.ref 39), some (.int v1), none]) (by exact ⟨rfl, ⟨rfl, ⟨rfl, trivial⟩⟩⟩) kk
    · rw [if_neg hc] at hf
      obtain ⟨x410, hx, hf⟩ := Option.bind_eq_some_iff.mp hf
      refine zEv_call 5 (N := 60) (vs := [.ref 44, .int v2]) (v1 := some (.int x410)) (h1 := zHp I) (L := [some (.ref 39), some (.int v1), some (.int v2)]) (rest := [.int v1]) (pc := 19) (fun n => rfl) (s_Rw_at_44 hx d (by omega)) rfl rfl ?_
      show zEv _ _ _ (19, [some (.ref 39), some (.int v1), some (.int v2)], [.int x410, .int v1]) _ _ _
      obtain ⟨x412, hm_m411, hf⟩ := Option.bind_eq_some_iff.mp hf
      have hJ_m411 : zEv none (d + 1) 28 (29, [some (.ref 39), none, some (.int v2)], [.int x412, .int v1]) (zHp I) v h' := by
        refine zEv_go 4 (f1 := (4, [some (.ref 39), some (.int (v1 + x412)), some (.int (v2 + 1))], [])) (h1 := zHp I) (fun n => rfl) ?_
        refine zEv_weak (L := [some (.ref 39), some (.int (v1 + x412)), some (.int (v2 + 1))]) (by exact ⟨rfl, ⟨rfl, ⟨rfl, trivial⟩⟩⟩) ?_
        exact ih hf kk
      clear hf
      refine zEv_if 2 (c := x410 = (-6)) (f1 := (24, [some (.ref 39), some (.int v1), some (.int v2)], [.int v1])) (f2 := (28, [some (.ref 39), some (.int v1), some (.int v2)], [.int v1])) (h1 := zHp I) (fun n => rfl) (fun hc => ?_) (fun hc => ?_)
      · rw [if_pos hc] at hm_m411
        obtain rfl := Option.some.inj hm_m411
        refine zEv_go 2 (f1 := (29, [some (.ref 39), some (.int v1), some (.int v2)], [.int 1, .int v1])) (h1 := zHp I) (fun n => rfl) ?_
        exact zEv_weak (L := [some (.ref 39), none, some (.int v2)]) (by exact ⟨rfl, ⟨rfl, ⟨rfl, trivial⟩⟩⟩) hJ_m411
      · rw [if_neg hc] at hm_m411
        obtain rfl := Option.some.inj hm_m411
        refine zEv_go 1 (f1 := (29, [some (.ref 39), some (.int v1), some (.int v2)], [.int 0, .int v1])) (h1 := zHp I) (fun n => rfl) ?_
        exact zEv_weak (L := [some (.ref 39), none, some (.int v2)]) (by exact ⟨rfl, ⟨rfl, ⟨rfl, trivial⟩⟩⟩) hJ_m411
def Ga_countNowhere_39 (n : Nat) (I : zI) : Option (Int32) :=
  (Ga_countNowhere_39_L4 n 0 0 I).bind fun x413 =>
  some x413
theorem s_Ga_countNowhere_39 {n : Nat} {I : zI} {r : Int32} (hf : Ga_countNowhere_39 n I = some r) (d : Nat) (hd : 1 ≤ d) : zCall d 28 [.ref 39] (zHp I) (some (.int r)) (zHp I) := by
  obtain ⟨d, rfl⟩ : ∃ e, d = e + 1 := ⟨d - 1, by omega⟩
  rw [Ga_countNowhere_39] at hf
  show zEv _ _ _ (0, [some (.ref 39), none, none], []) _ _ _
  obtain ⟨x413, hx, hf⟩ := Option.bind_eq_some_iff.mp hf
  refine zEv_go 4 (f1 := (4, [some (.ref 39), some (.int 0), some (.int 0)], [])) (h1 := zHp I) (fun n => rfl) ?_
  refine zEv_weak (L := [some (.ref 39), some (.int 0), some (.int 0)]) (by exact ⟨rfl, ⟨rfl, ⟨rfl, trivial⟩⟩⟩) (s_Ga_countNowhere_39_L4 (d + 1) (by omega) n hx ?_)
  cases hf
  exact zEv_ret 2 (fun n => rfl)
def Ga_countOnBenches_39_L4 : Nat → Int32 → Int32 → zI → Option (Int32)
  | 0, _, _, _ => none
  | n + 1, v1, v2, I =>
    if 12 ≤ v2 then
      some v1
    else
      (Rw_at_44 v2 I).bind fun x415 =>
      (
        if x415 < 10 then
          some 0
        else
          some 1 : Option (Int32)).bind fun x417 =>
      Ga_countOnBenches_39_L4 n (v1 + x417) (v2 + 1) I
theorem s_Ga_countOnBenches_39_L4 (d : Nat) (hd : 1 ≤ d) : ∀ (n : Nat) {v1 : Int32} {v2 : Int32} {I : zI} {y1 : Int32} {v : Option Value} {h' : zH}, Ga_countOnBenches_39_L4 n v1 v2 I = some y1 → zEv none d 29 (37, [some (.ref 39), some (.int y1), none], []) (zHp I) v h' → zEv none d 29 (4, [some (.ref 39), some (.int v1), some (.int v2)], []) (zHp I) v h' := by
  obtain ⟨d, rfl⟩ : ∃ e, d = e + 1 := ⟨d - 1, by omega⟩
  intro n
  induction n with
  | zero => intros; rename_i hf _; cases hf
  | succ n ih =>
    intro v1 v2 I y1 v h' hf kk
    rw [Ga_countOnBenches_39_L4] at hf
    refine zEv_if 3 (c := 12 ≤ v2) (f1 := (37, [some (.ref 39), some (.int v1), some (.int v2)], [])) (f2 := (10, [some (.ref 39), some (.int v1), some (.int v2)], [])) (h1 := zHp I) (fun n => rfl) (fun hc => ?_) (fun hc => ?_)
    · rw [if_pos hc] at hf
      obtain rfl := Option.some.inj hf
      exact zEv_weak (L := [some (.ref 39), some (.int v1), none]) (by exact ⟨rfl, ⟨rfl, ⟨rfl, trivial⟩⟩⟩) kk
    · rw [if_neg hc] at hf
      obtain ⟨x415, hx, hf⟩ := Option.bind_eq_some_iff.mp hf
      refine zEv_call 5 (N := 60) (vs := [.ref 44, .int v2]) (v1 := some (.int x415)) (h1 := zHp I) (L := [some (.ref 39), some (.int v1), some (.int v2)]) (rest := [.int v1]) (pc := 19) (fun n => rfl) (s_Rw_at_44 hx d (by omega)) rfl rfl ?_
      show zEv _ _ _ (19, [some (.ref 39), some (.int v1), some (.int v2)], [.int x415, .int v1]) _ _ _
      obtain ⟨x417, hm_m416, hf⟩ := Option.bind_eq_some_iff.mp hf
      have hJ_m416 : zEv none (d + 1) 29 (29, [some (.ref 39), none, some (.int v2)], [.int x417, .int v1]) (zHp I) v h' := by
        refine zEv_go 4 (f1 := (4, [some (.ref 39), some (.int (v1 + x417)), some (.int (v2 + 1))], [])) (h1 := zHp I) (fun n => rfl) ?_
        refine zEv_weak (L := [some (.ref 39), some (.int (v1 + x417)), some (.int (v2 + 1))]) (by exact ⟨rfl, ⟨rfl, ⟨rfl, trivial⟩⟩⟩) ?_
        exact ih hf kk
      clear hf
      refine zEv_if 2 (c := x415 < 10) (f1 := (28, [some (.ref 39), some (.int v1), some (.int v2)], [.int v1])) (f2 := (24, [some (.ref 39), some (.int v1), some (.int v2)], [.int v1])) (h1 := zHp I) (fun n => rfl) (fun hc => ?_) (fun hc => ?_)
      · rw [if_pos hc] at hm_m416
        obtain rfl := Option.some.inj hm_m416
        refine zEv_go 1 (f1 := (29, [some (.ref 39), some (.int v1), some (.int v2)], [.int 0, .int v1])) (h1 := zHp I) (fun n => rfl) ?_
        exact zEv_weak (L := [some (.ref 39), none, some (.int v2)]) (by exact ⟨rfl, ⟨rfl, ⟨rfl, trivial⟩⟩⟩) hJ_m416
      · rw [if_neg hc] at hm_m416
        obtain rfl := Option.some.inj hm_m416
        refine zEv_go 2 (f1 := (29, [some (.ref 39), some (.int v1), some (.int v2)], [.int 1, .int v1])) (h1 := zHp I) (fun n => rfl) ?_
        exact zEv_weak (L := [some (.ref 39), none, some (.int v2)]) (by exact ⟨rfl, ⟨rfl, ⟨rfl, trivial⟩⟩⟩) hJ_m416
def Ga_countOnBenches_39 (n : Nat) (I : zI) : Option (Int32) :=
  (Ga_countOnBenches_39_L4 n 0 0 I).bind fun x418 =>
  some x418
theorem s_Ga_countOnBenches_39 {n : Nat} {I : zI} {r : Int32} (hf : Ga_countOnBenches_39 n I = some r) (d : Nat) (hd : 1 ≤ d) : zCall d 29 [.ref 39] (zHp I) (some (.int r)) (zHp I) := by
  obtain ⟨d, rfl⟩ : ∃ e, d = e + 1 := ⟨d - 1, by omega⟩
  rw [Ga_countOnBenches_39] at hf
  show zEv _ _ _ (0, [some (.ref 39), none, none], []) _ _ _
  obtain ⟨x418, hx, hf⟩ := Option.bind_eq_some_iff.mp hf
  refine zEv_go 4 (f1 := (4, [some (.ref 39), some (.int 0), some (.int 0)], [])) (h1 := zHp I) (fun n => rfl) ?_
  refine zEv_weak (L := [some (.ref 39), some (.int 0), some (.int 0)]) (by exact ⟨rfl, ⟨rfl, ⟨rfl, trivial⟩⟩⟩) (s_Ga_countOnBenches_39_L4 (d + 1) (by omega) n hx ?_)
  cases hf
  exact zEv_ret 2 (fun n => rfl)
def BM_season (n : Nat) (a0 : Int32) (a1 : Int32) (a2 : Int32) (I : zI) : Option (Int32 × zI) :=
  (BM_isWithin a0 0 9999 I).bind fun x391 =>
  (
    if x391 = 0 then
      some 0
    else
      (BM_isWithin a1 1 99 I).bind fun x393 =>
      if x393 = 0 then
        some 0
      else
        (BM_isWithin a2 0 2 I).bind fun x394 =>
        if x394 = 0 then
          some 0
        else
          some 1 : Option (Int32)).bind fun x395 =>
  if x395 = 0 then
    some ((-2), I)
  else
    (Co_drift_2 n a0 a1 I).bind fun I409 =>
    if a2 = 2 then
      some ((I409 39 7), I409)
    else
      if a2 = 0 then
        (Ga_countNowhere_39 n I409).bind fun x414 =>
        some (x414, I409)
      else
        (Ga_countOnBenches_39 n I409).bind fun x419 =>
        some (x419, I409)
theorem s_BM_season {n : Nat} {a0 : Int32} {a1 : Int32} {a2 : Int32} {I : zI} {r : Int32} {I' : zI} (hf : BM_season n a0 a1 a2 I = some (r, I')) (d : Nat) (hd : 6 ≤ d) : zCall d 104 [.ref 1, .int a0, .int a1, .int a2] (zHp I) (some (.int r)) (zHp I') := by
  obtain ⟨d, rfl⟩ : ∃ e, d = e + 1 := ⟨d - 1, by omega⟩
  rw [BM_season] at hf
  show zEv _ _ _ (0, [some (.ref 1), some (.int a0), some (.int a1), some (.int a2), none], []) _ _ _
  obtain ⟨x391, hx, hf⟩ := Option.bind_eq_some_iff.mp hf
  refine zEv_call 4 (N := 109) (vs := [.int a0, .int 0, .int 9999]) (v1 := some (.int x391)) (h1 := zHp I) (L := [some (.ref 1), some (.int a0), some (.int a1), some (.int a2), none]) (rest := []) (pc := 8) (fun n => rfl) (s_BM_isWithin hx d (by omega)) rfl rfl ?_
  show zEv _ _ _ (8, [some (.ref 1), some (.int a0), some (.int a1), some (.int a2), none], [.int x391]) _ _ _
  obtain ⟨x395, hm_m392, hf⟩ := Option.bind_eq_some_iff.mp hf
  have hJ_m392 : zEv none (d + 1) 104 (35, [some (.ref 1), some (.int a0), some (.int a1), some (.int a2), none], [.int x395]) (zHp I) (some (.int r)) (zHp I') := by
    refine zEv_if 3 (c := x395 = 0) (f1 := (42, [some (.ref 1), some (.int a0), some (.int a1), some (.int a2), some (.int x395)], [])) (f2 := (45, [some (.ref 1), some (.int a0), some (.int a1), some (.int a2), some (.int x395)], [])) (h1 := zHp I) (fun n => rfl) (fun hc => ?_) (fun hc => ?_)
    · rw [if_pos hc] at hf
      cases hf
      exact zEv_ret 2 (fun n => rfl)
    · rw [if_neg hc] at hf
      obtain ⟨I409, hx, hf⟩ := Option.bind_eq_some_iff.mp hf
      refine zEv_call 7 (N := 6) (vs := [.ref 38, .ref 2, .int a0, .int a1]) (v1 := none) (h1 := zHp I409) (L := [some (.ref 1), some (.int a0), some (.int a1), some (.int a2), some (.int x395)]) (rest := []) (pc := 58) (fun n => rfl) (s_Co_drift_2 hx d (by omega)) rfl rfl ?_
      show zEv _ _ _ (58, [some (.ref 1), some (.int a0), some (.int a1), some (.int a2), some (.int x395)], []) _ _ _
      refine zEv_if 3 (c := a2 = 2) (f1 := (63, [some (.ref 1), some (.int a0), some (.int a1), some (.int a2), some (.int x395)], [])) (f2 := (74, [some (.ref 1), some (.int a0), some (.int a1), some (.int a2), some (.int x395)], [])) (h1 := zHp I409) (fun n => rfl) (fun hc => ?_) (fun hc => ?_)
      · rw [if_pos hc] at hf
        cases hf
        exact zEv_ret 5 (fun n => rfl)
      · rw [if_neg hc] at hf
        refine zEv_if 2 (c := a2 = 0) (f1 := (78, [some (.ref 1), some (.int a0), some (.int a1), some (.int a2), some (.int x395)], [])) (f2 := (91, [some (.ref 1), some (.int a0), some (.int a1), some (.int a2), some (.int x395)], [])) (h1 := zHp I409) (fun n => rfl) (fun hc => ?_) (fun hc => ?_)
        · rw [if_pos hc] at hf
          obtain ⟨x414, hx, hf⟩ := Option.bind_eq_some_iff.mp hf
          refine zEv_call 4 (N := 28) (vs := [.ref 39]) (v1 := some (.int x414)) (h1 := zHp I409) (L := [some (.ref 1), some (.int a0), some (.int a1), some (.int a2), some (.int x395)]) (rest := []) (pc := 88) (fun n => rfl) (s_Ga_countNowhere_39 hx d (by omega)) rfl rfl ?_
          show zEv _ _ _ (88, [some (.ref 1), some (.int a0), some (.int a1), some (.int a2), some (.int x395)], [.int x414]) _ _ _
          cases hf
          exact zEv_ret 2 (fun n => rfl)
        · rw [if_neg hc] at hf
          obtain ⟨x419, hx, hf⟩ := Option.bind_eq_some_iff.mp hf
          refine zEv_call 4 (N := 29) (vs := [.ref 39]) (v1 := some (.int x419)) (h1 := zHp I409) (L := [some (.ref 1), some (.int a0), some (.int a1), some (.int a2), some (.int x395)]) (rest := []) (pc := 101) (fun n => rfl) (s_Ga_countOnBenches_39 hx d (by omega)) rfl rfl ?_
          show zEv _ _ _ (101, [some (.ref 1), some (.int a0), some (.int a1), some (.int a2), some (.int x395)], [.int x419]) _ _ _
          cases hf
          exact zEv_ret 1 (fun n => rfl)
  clear hf
  refine zEv_if 1 (c := x391 = 0) (f1 := (34, [some (.ref 1), some (.int a0), some (.int a1), some (.int a2), none], [])) (f2 := (11, [some (.ref 1), some (.int a0), some (.int a1), some (.int a2), none], [])) (h1 := zHp I) (fun n => rfl) (fun hc => ?_) (fun hc => ?_)
  · rw [if_pos hc] at hm_m392
    obtain rfl := Option.some.inj hm_m392
    refine zEv_go 1 (f1 := (35, [some (.ref 1), some (.int a0), some (.int a1), some (.int a2), none], [.int 0])) (h1 := zHp I) (fun n => rfl) ?_
    exact zEv_weak (L := [some (.ref 1), some (.int a0), some (.int a1), some (.int a2), none]) (by exact ⟨rfl, ⟨rfl, ⟨rfl, ⟨rfl, ⟨rfl, trivial⟩⟩⟩⟩⟩) hJ_m392
  · rw [if_neg hc] at hm_m392
    obtain ⟨x393, hx, hm_m392⟩ := Option.bind_eq_some_iff.mp hm_m392
    refine zEv_call 4 (N := 109) (vs := [.int a1, .int 1, .int 99]) (v1 := some (.int x393)) (h1 := zHp I) (L := [some (.ref 1), some (.int a0), some (.int a1), some (.int a2), none]) (rest := []) (pc := 18) (fun n => rfl) (s_BM_isWithin hx d (by omega)) rfl rfl ?_
    show zEv _ _ _ (18, [some (.ref 1), some (.int a0), some (.int a1), some (.int a2), none], [.int x393]) _ _ _
    refine zEv_if 1 (c := x393 = 0) (f1 := (34, [some (.ref 1), some (.int a0), some (.int a1), some (.int a2), none], [])) (f2 := (21, [some (.ref 1), some (.int a0), some (.int a1), some (.int a2), none], [])) (h1 := zHp I) (fun n => rfl) (fun hc => ?_) (fun hc => ?_)
    · rw [if_pos hc] at hm_m392
      obtain rfl := Option.some.inj hm_m392
      refine zEv_go 1 (f1 := (35, [some (.ref 1), some (.int a0), some (.int a1), some (.int a2), none], [.int 0])) (h1 := zHp I) (fun n => rfl) ?_
      exact zEv_weak (L := [some (.ref 1), some (.int a0), some (.int a1), some (.int a2), none]) (by exact ⟨rfl, ⟨rfl, ⟨rfl, ⟨rfl, ⟨rfl, trivial⟩⟩⟩⟩⟩) hJ_m392
    · rw [if_neg hc] at hm_m392
      obtain ⟨x394, hx, hm_m392⟩ := Option.bind_eq_some_iff.mp hm_m392
      refine zEv_call 4 (N := 109) (vs := [.int a2, .int 0, .int 2]) (v1 := some (.int x394)) (h1 := zHp I) (L := [some (.ref 1), some (.int a0), some (.int a1), some (.int a2), none]) (rest := []) (pc := 27) (fun n => rfl) (s_BM_isWithin hx d (by omega)) rfl rfl ?_
      show zEv _ _ _ (27, [some (.ref 1), some (.int a0), some (.int a1), some (.int a2), none], [.int x394]) _ _ _
      refine zEv_if 1 (c := x394 = 0) (f1 := (34, [some (.ref 1), some (.int a0), some (.int a1), some (.int a2), none], [])) (f2 := (30, [some (.ref 1), some (.int a0), some (.int a1), some (.int a2), none], [])) (h1 := zHp I) (fun n => rfl) (fun hc => ?_) (fun hc => ?_)
      · rw [if_pos hc] at hm_m392
        obtain rfl := Option.some.inj hm_m392
        refine zEv_go 1 (f1 := (35, [some (.ref 1), some (.int a0), some (.int a1), some (.int a2), none], [.int 0])) (h1 := zHp I) (fun n => rfl) ?_
        exact zEv_weak (L := [some (.ref 1), some (.int a0), some (.int a1), some (.int a2), none]) (by exact ⟨rfl, ⟨rfl, ⟨rfl, ⟨rfl, ⟨rfl, trivial⟩⟩⟩⟩⟩) hJ_m392
      · rw [if_neg hc] at hm_m392
        obtain rfl := Option.some.inj hm_m392
        refine zEv_go 2 (f1 := (35, [some (.ref 1), some (.int a0), some (.int a1), some (.int a2), none], [.int 1])) (h1 := zHp I) (fun n => rfl) ?_
        exact zEv_weak (L := [some (.ref 1), some (.int a0), some (.int a1), some (.int a2), none]) (by exact ⟨rfl, ⟨rfl, ⟨rfl, ⟨rfl, ⟨rfl, trivial⟩⟩⟩⟩⟩) hJ_m392
def Rw_copyFrom_14_3  (I : zI) : Option (zI) :=
  some (zRow I 15 (va_cpy (I 4) (I 15) 0 0 10))
theorem s_Rw_copyFrom_14_3  {I : zI} {I' : zI} (hf : Rw_copyFrom_14_3 I = some I') (d : Nat) (hd : 1 ≤ d) : zCall d 63 [.ref 14, .ref 3] (zHp I) (none) (zHp I') := by
  obtain ⟨d, rfl⟩ : ∃ e, d = e + 1 := ⟨d - 1, by omega⟩
  rw [Rw_copyFrom_14_3] at hf
  show zEv _ _ _ (0, [some (.ref 14), some (.ref 3)], []) _ _ _
  cases hf
  exact zEv_ret 20 (fun n => rfl)
def Rw_copyFrom_16_5  (I : zI) : Option (zI) :=
  some (zRow I 17 (va_cpy (I 6) (I 17) 0 0 8))
theorem s_Rw_copyFrom_16_5  {I : zI} {I' : zI} (hf : Rw_copyFrom_16_5 I = some I') (d : Nat) (hd : 1 ≤ d) : zCall d 63 [.ref 16, .ref 5] (zHp I) (none) (zHp I') := by
  obtain ⟨d, rfl⟩ : ∃ e, d = e + 1 := ⟨d - 1, by omega⟩
  rw [Rw_copyFrom_16_5] at hf
  show zEv _ _ _ (0, [some (.ref 16), some (.ref 5)], []) _ _ _
  cases hf
  exact zEv_ret 20 (fun n => rfl)
def Rw_copyFrom_18_7  (I : zI) : Option (zI) :=
  some (zRow I 19 (va_cpy (I 8) (I 19) 0 0 12))
theorem s_Rw_copyFrom_18_7  {I : zI} {I' : zI} (hf : Rw_copyFrom_18_7 I = some I') (d : Nat) (hd : 1 ≤ d) : zCall d 63 [.ref 18, .ref 7] (zHp I) (none) (zHp I') := by
  obtain ⟨d, rfl⟩ : ∃ e, d = e + 1 := ⟨d - 1, by omega⟩
  rw [Rw_copyFrom_18_7] at hf
  show zEv _ _ _ (0, [some (.ref 18), some (.ref 7)], []) _ _ _
  cases hf
  exact zEv_ret 20 (fun n => rfl)
def Rw_copyFrom_20_9  (I : zI) : Option (zI) :=
  some (zRow I 21 (va_cpy (I 10) (I 21) 0 0 12))
theorem s_Rw_copyFrom_20_9  {I : zI} {I' : zI} (hf : Rw_copyFrom_20_9 I = some I') (d : Nat) (hd : 1 ≤ d) : zCall d 63 [.ref 20, .ref 9] (zHp I) (none) (zHp I') := by
  obtain ⟨d, rfl⟩ : ∃ e, d = e + 1 := ⟨d - 1, by omega⟩
  rw [Rw_copyFrom_20_9] at hf
  show zEv _ _ _ (0, [some (.ref 20), some (.ref 9)], []) _ _ _
  cases hf
  exact zEv_ret 20 (fun n => rfl)
def Rw_copyFrom_22_11  (I : zI) : Option (zI) :=
  some (zRow I 23 (va_cpy (I 12) (I 23) 0 0 8))
theorem s_Rw_copyFrom_22_11  {I : zI} {I' : zI} (hf : Rw_copyFrom_22_11 I = some I') (d : Nat) (hd : 1 ≤ d) : zCall d 63 [.ref 22, .ref 11] (zHp I) (none) (zHp I') := by
  obtain ⟨d, rfl⟩ : ∃ e, d = e + 1 := ⟨d - 1, by omega⟩
  rw [Rw_copyFrom_22_11] at hf
  show zEv _ _ _ (0, [some (.ref 22), some (.ref 11)], []) _ _ _
  cases hf
  exact zEv_ret 20 (fun n => rfl)
def Ga_copyFrom_13_2  (I : zI) : Option (zI) :=
  (Rw_copyFrom_14_3 I).bind fun I422 =>
  (Rw_copyFrom_16_5 I422).bind fun I423 =>
  (Rw_copyFrom_18_7 I423).bind fun I424 =>
  (Rw_copyFrom_20_9 I424).bind fun I425 =>
  (Rw_copyFrom_22_11 I425).bind fun I426 =>
  some (zUp (zUp (zUp I426 13 5 (I426 2 5)) 13 6 ((zUp I426 13 5 (I426 2 5)) 2 6)) 13 7 ((zUp (zUp I426 13 5 (I426 2 5)) 13 6 ((zUp I426 13 5 (I426 2 5)) 2 6)) 2 7))
theorem s_Ga_copyFrom_13_2  {I : zI} {I' : zI} (hf : Ga_copyFrom_13_2 I = some I') (d : Nat) (hd : 2 ≤ d) : zCall d 10 [.ref 13, .ref 2] (zHp I) (none) (zHp I') := by
  obtain ⟨d, rfl⟩ : ∃ e, d = e + 1 := ⟨d - 1, by omega⟩
  rw [Ga_copyFrom_13_2] at hf
  show zEv _ _ _ (0, [some (.ref 13), some (.ref 2)], []) _ _ _
  obtain ⟨I422, hx, hf⟩ := Option.bind_eq_some_iff.mp hf
  refine zEv_call 7 (N := 63) (vs := [.ref 14, .ref 3]) (v1 := none) (h1 := zHp I422) (L := [some (.ref 13), some (.ref 2)]) (rest := []) (pc := 16) (fun n => rfl) (s_Rw_copyFrom_14_3 hx d (by omega)) rfl rfl ?_
  show zEv _ _ _ (16, [some (.ref 13), some (.ref 2)], []) _ _ _
  obtain ⟨I423, hx, hf⟩ := Option.bind_eq_some_iff.mp hf
  refine zEv_call 5 (N := 63) (vs := [.ref 16, .ref 5]) (v1 := none) (h1 := zHp I423) (L := [some (.ref 13), some (.ref 2)]) (rest := []) (pc := 27) (fun n => rfl) (s_Rw_copyFrom_16_5 hx d (by omega)) rfl rfl ?_
  show zEv _ _ _ (27, [some (.ref 13), some (.ref 2)], []) _ _ _
  obtain ⟨I424, hx, hf⟩ := Option.bind_eq_some_iff.mp hf
  refine zEv_call 5 (N := 63) (vs := [.ref 18, .ref 7]) (v1 := none) (h1 := zHp I424) (L := [some (.ref 13), some (.ref 2)]) (rest := []) (pc := 38) (fun n => rfl) (s_Rw_copyFrom_18_7 hx d (by omega)) rfl rfl ?_
  show zEv _ _ _ (38, [some (.ref 13), some (.ref 2)], []) _ _ _
  obtain ⟨I425, hx, hf⟩ := Option.bind_eq_some_iff.mp hf
  refine zEv_call 5 (N := 63) (vs := [.ref 20, .ref 9]) (v1 := none) (h1 := zHp I425) (L := [some (.ref 13), some (.ref 2)]) (rest := []) (pc := 49) (fun n => rfl) (s_Rw_copyFrom_20_9 hx d (by omega)) rfl rfl ?_
  show zEv _ _ _ (49, [some (.ref 13), some (.ref 2)], []) _ _ _
  obtain ⟨I426, hx, hf⟩ := Option.bind_eq_some_iff.mp hf
  refine zEv_call 5 (N := 63) (vs := [.ref 22, .ref 11]) (v1 := none) (h1 := zHp I426) (L := [some (.ref 13), some (.ref 2)]) (rest := []) (pc := 60) (fun n => rfl) (s_Rw_copyFrom_22_11 hx d (by omega)) rfl rfl ?_
  show zEv _ _ _ (60, [some (.ref 13), some (.ref 2)], []) _ _ _
  cases hf
  exact zEv_ret 13 (fun n => rfl)
def Rw_copyFrom_25_3  (I : zI) : Option (zI) :=
  some (zRow I 26 (va_cpy (I 4) (I 26) 0 0 10))
theorem s_Rw_copyFrom_25_3  {I : zI} {I' : zI} (hf : Rw_copyFrom_25_3 I = some I') (d : Nat) (hd : 1 ≤ d) : zCall d 63 [.ref 25, .ref 3] (zHp I) (none) (zHp I') := by
  obtain ⟨d, rfl⟩ : ∃ e, d = e + 1 := ⟨d - 1, by omega⟩
  rw [Rw_copyFrom_25_3] at hf
  show zEv _ _ _ (0, [some (.ref 25), some (.ref 3)], []) _ _ _
  cases hf
  exact zEv_ret 20 (fun n => rfl)
def Rw_copyFrom_27_5  (I : zI) : Option (zI) :=
  some (zRow I 28 (va_cpy (I 6) (I 28) 0 0 8))
theorem s_Rw_copyFrom_27_5  {I : zI} {I' : zI} (hf : Rw_copyFrom_27_5 I = some I') (d : Nat) (hd : 1 ≤ d) : zCall d 63 [.ref 27, .ref 5] (zHp I) (none) (zHp I') := by
  obtain ⟨d, rfl⟩ : ∃ e, d = e + 1 := ⟨d - 1, by omega⟩
  rw [Rw_copyFrom_27_5] at hf
  show zEv _ _ _ (0, [some (.ref 27), some (.ref 5)], []) _ _ _
  cases hf
  exact zEv_ret 20 (fun n => rfl)
def Rw_copyFrom_29_7  (I : zI) : Option (zI) :=
  some (zRow I 30 (va_cpy (I 8) (I 30) 0 0 12))
theorem s_Rw_copyFrom_29_7  {I : zI} {I' : zI} (hf : Rw_copyFrom_29_7 I = some I') (d : Nat) (hd : 1 ≤ d) : zCall d 63 [.ref 29, .ref 7] (zHp I) (none) (zHp I') := by
  obtain ⟨d, rfl⟩ : ∃ e, d = e + 1 := ⟨d - 1, by omega⟩
  rw [Rw_copyFrom_29_7] at hf
  show zEv _ _ _ (0, [some (.ref 29), some (.ref 7)], []) _ _ _
  cases hf
  exact zEv_ret 20 (fun n => rfl)
def Rw_copyFrom_31_9  (I : zI) : Option (zI) :=
  some (zRow I 32 (va_cpy (I 10) (I 32) 0 0 12))
theorem s_Rw_copyFrom_31_9  {I : zI} {I' : zI} (hf : Rw_copyFrom_31_9 I = some I') (d : Nat) (hd : 1 ≤ d) : zCall d 63 [.ref 31, .ref 9] (zHp I) (none) (zHp I') := by
  obtain ⟨d, rfl⟩ : ∃ e, d = e + 1 := ⟨d - 1, by omega⟩
  rw [Rw_copyFrom_31_9] at hf
  show zEv _ _ _ (0, [some (.ref 31), some (.ref 9)], []) _ _ _
  cases hf
  exact zEv_ret 20 (fun n => rfl)
def Rw_copyFrom_33_11  (I : zI) : Option (zI) :=
  some (zRow I 34 (va_cpy (I 12) (I 34) 0 0 8))
theorem s_Rw_copyFrom_33_11  {I : zI} {I' : zI} (hf : Rw_copyFrom_33_11 I = some I') (d : Nat) (hd : 1 ≤ d) : zCall d 63 [.ref 33, .ref 11] (zHp I) (none) (zHp I') := by
  obtain ⟨d, rfl⟩ : ∃ e, d = e + 1 := ⟨d - 1, by omega⟩
  rw [Rw_copyFrom_33_11] at hf
  show zEv _ _ _ (0, [some (.ref 33), some (.ref 11)], []) _ _ _
  cases hf
  exact zEv_ret 20 (fun n => rfl)
def Ga_copyFrom_24_2  (I : zI) : Option (zI) :=
  (Rw_copyFrom_25_3 I).bind fun I428 =>
  (Rw_copyFrom_27_5 I428).bind fun I429 =>
  (Rw_copyFrom_29_7 I429).bind fun I430 =>
  (Rw_copyFrom_31_9 I430).bind fun I431 =>
  (Rw_copyFrom_33_11 I431).bind fun I432 =>
  some (zUp (zUp (zUp I432 24 5 (I432 2 5)) 24 6 ((zUp I432 24 5 (I432 2 5)) 2 6)) 24 7 ((zUp (zUp I432 24 5 (I432 2 5)) 24 6 ((zUp I432 24 5 (I432 2 5)) 2 6)) 2 7))
theorem s_Ga_copyFrom_24_2  {I : zI} {I' : zI} (hf : Ga_copyFrom_24_2 I = some I') (d : Nat) (hd : 2 ≤ d) : zCall d 10 [.ref 24, .ref 2] (zHp I) (none) (zHp I') := by
  obtain ⟨d, rfl⟩ : ∃ e, d = e + 1 := ⟨d - 1, by omega⟩
  rw [Ga_copyFrom_24_2] at hf
  show zEv _ _ _ (0, [some (.ref 24), some (.ref 2)], []) _ _ _
  obtain ⟨I428, hx, hf⟩ := Option.bind_eq_some_iff.mp hf
  refine zEv_call 7 (N := 63) (vs := [.ref 25, .ref 3]) (v1 := none) (h1 := zHp I428) (L := [some (.ref 24), some (.ref 2)]) (rest := []) (pc := 16) (fun n => rfl) (s_Rw_copyFrom_25_3 hx d (by omega)) rfl rfl ?_
  show zEv _ _ _ (16, [some (.ref 24), some (.ref 2)], []) _ _ _
  obtain ⟨I429, hx, hf⟩ := Option.bind_eq_some_iff.mp hf
  refine zEv_call 5 (N := 63) (vs := [.ref 27, .ref 5]) (v1 := none) (h1 := zHp I429) (L := [some (.ref 24), some (.ref 2)]) (rest := []) (pc := 27) (fun n => rfl) (s_Rw_copyFrom_27_5 hx d (by omega)) rfl rfl ?_
  show zEv _ _ _ (27, [some (.ref 24), some (.ref 2)], []) _ _ _
  obtain ⟨I430, hx, hf⟩ := Option.bind_eq_some_iff.mp hf
  refine zEv_call 5 (N := 63) (vs := [.ref 29, .ref 7]) (v1 := none) (h1 := zHp I430) (L := [some (.ref 24), some (.ref 2)]) (rest := []) (pc := 38) (fun n => rfl) (s_Rw_copyFrom_29_7 hx d (by omega)) rfl rfl ?_
  show zEv _ _ _ (38, [some (.ref 24), some (.ref 2)], []) _ _ _
  obtain ⟨I431, hx, hf⟩ := Option.bind_eq_some_iff.mp hf
  refine zEv_call 5 (N := 63) (vs := [.ref 31, .ref 9]) (v1 := none) (h1 := zHp I431) (L := [some (.ref 24), some (.ref 2)]) (rest := []) (pc := 49) (fun n => rfl) (s_Rw_copyFrom_31_9 hx d (by omega)) rfl rfl ?_
  show zEv _ _ _ (49, [some (.ref 24), some (.ref 2)], []) _ _ _
  obtain ⟨I432, hx, hf⟩ := Option.bind_eq_some_iff.mp hf
  refine zEv_call 5 (N := 63) (vs := [.ref 33, .ref 11]) (v1 := none) (h1 := zHp I432) (L := [some (.ref 24), some (.ref 2)]) (rest := []) (pc := 60) (fun n => rfl) (s_Rw_copyFrom_33_11 hx d (by omega)) rfl rfl ?_
  show zEv _ _ _ (60, [some (.ref 24), some (.ref 2)], []) _ _ _
  cases hf
  exact zEv_ret 13 (fun n => rfl)
def BM_image  (a0 : Int32) (I : zI) : Option (Int32 × zI) :=
  (BM_isWithin a0 0 1 I).bind fun x420 =>
  if x420 = 0 then
    some ((-2), I)
  else
    if a0 = 0 then
      (Ga_copyFrom_13_2 I).bind fun I427 =>
      some (1, (zUp I427 1 10 ((I427 1 10) ||| (zShl 1 a0))))
    else
      (Ga_copyFrom_24_2 I).bind fun I433 =>
      some (1, (zUp I433 1 10 ((I433 1 10) ||| (zShl 1 a0))))
theorem s_BM_image  {a0 : Int32} {I : zI} {r : Int32} {I' : zI} (hf : BM_image a0 I = some (r, I')) (d : Nat) (hd : 3 ≤ d) : zCall d 105 [.ref 1, .int a0] (zHp I) (some (.int r)) (zHp I') := by
  obtain ⟨d, rfl⟩ : ∃ e, d = e + 1 := ⟨d - 1, by omega⟩
  rw [BM_image] at hf
  show zEv _ _ _ (0, [some (.ref 1), some (.int a0), none], []) _ _ _
  obtain ⟨x420, hx, hf⟩ := Option.bind_eq_some_iff.mp hf
  refine zEv_call 4 (N := 109) (vs := [.int a0, .int 0, .int 1]) (v1 := some (.int x420)) (h1 := zHp I) (L := [some (.ref 1), some (.int a0), none]) (rest := []) (pc := 6) (fun n => rfl) (s_BM_isWithin hx d (by omega)) rfl rfl ?_
  show zEv _ _ _ (6, [some (.ref 1), some (.int a0), none], [.int x420]) _ _ _
  refine zEv_if 1 (c := x420 = 0) (f1 := (9, [some (.ref 1), some (.int a0), none], [])) (f2 := (12, [some (.ref 1), some (.int a0), none], [])) (h1 := zHp I) (fun n => rfl) (fun hc => ?_) (fun hc => ?_)
  · rw [if_pos hc] at hf
    cases hf
    exact zEv_ret 2 (fun n => rfl)
  · rw [if_neg hc] at hf
    refine zEv_if 2 (c := a0 = 0) (f1 := (16, [some (.ref 1), some (.int a0), none], [])) (f2 := (23, [some (.ref 1), some (.int a0), none], [])) (h1 := zHp I) (fun n => rfl) (fun hc => ?_) (fun hc => ?_)
    · rw [if_pos hc] at hf
      obtain ⟨I427, hx, hf⟩ := Option.bind_eq_some_iff.mp hf
      refine zEv_call 8 (N := 10) (vs := [.ref 13, .ref 2]) (v1 := none) (h1 := zHp I427) (L := [some (.ref 1), some (.int a0), some (.ref 13)]) (rest := []) (pc := 36) (fun n => rfl) (s_Ga_copyFrom_13_2 hx d (by omega)) rfl rfl ?_
      show zEv _ _ _ (36, [some (.ref 1), some (.int a0), some (.ref 13)], []) _ _ _
      cases hf
      exact zEv_ret 10 (fun n => rfl)
    · rw [if_neg hc] at hf
      obtain ⟨I433, hx, hf⟩ := Option.bind_eq_some_iff.mp hf
      refine zEv_call 7 (N := 10) (vs := [.ref 24, .ref 2]) (v1 := none) (h1 := zHp I433) (L := [some (.ref 1), some (.int a0), some (.ref 24)]) (rest := []) (pc := 36) (fun n => rfl) (s_Ga_copyFrom_24_2 hx d (by omega)) rfl rfl ?_
      show zEv _ _ _ (36, [some (.ref 1), some (.int a0), some (.ref 24)], []) _ _ _
      cases hf
      exact zEv_ret 10 (fun n => rfl)
def Rw_copyFrom_3_14  (I : zI) : Option (zI) :=
  some (zRow I 4 (va_cpy (I 15) (I 4) 0 0 10))
theorem s_Rw_copyFrom_3_14  {I : zI} {I' : zI} (hf : Rw_copyFrom_3_14 I = some I') (d : Nat) (hd : 1 ≤ d) : zCall d 63 [.ref 3, .ref 14] (zHp I) (none) (zHp I') := by
  obtain ⟨d, rfl⟩ : ∃ e, d = e + 1 := ⟨d - 1, by omega⟩
  rw [Rw_copyFrom_3_14] at hf
  show zEv _ _ _ (0, [some (.ref 3), some (.ref 14)], []) _ _ _
  cases hf
  exact zEv_ret 20 (fun n => rfl)
def Rw_copyFrom_5_16  (I : zI) : Option (zI) :=
  some (zRow I 6 (va_cpy (I 17) (I 6) 0 0 8))
theorem s_Rw_copyFrom_5_16  {I : zI} {I' : zI} (hf : Rw_copyFrom_5_16 I = some I') (d : Nat) (hd : 1 ≤ d) : zCall d 63 [.ref 5, .ref 16] (zHp I) (none) (zHp I') := by
  obtain ⟨d, rfl⟩ : ∃ e, d = e + 1 := ⟨d - 1, by omega⟩
  rw [Rw_copyFrom_5_16] at hf
  show zEv _ _ _ (0, [some (.ref 5), some (.ref 16)], []) _ _ _
  cases hf
  exact zEv_ret 20 (fun n => rfl)
def Rw_copyFrom_7_18  (I : zI) : Option (zI) :=
  some (zRow I 8 (va_cpy (I 19) (I 8) 0 0 12))
theorem s_Rw_copyFrom_7_18  {I : zI} {I' : zI} (hf : Rw_copyFrom_7_18 I = some I') (d : Nat) (hd : 1 ≤ d) : zCall d 63 [.ref 7, .ref 18] (zHp I) (none) (zHp I') := by
  obtain ⟨d, rfl⟩ : ∃ e, d = e + 1 := ⟨d - 1, by omega⟩
  rw [Rw_copyFrom_7_18] at hf
  show zEv _ _ _ (0, [some (.ref 7), some (.ref 18)], []) _ _ _
  cases hf
  exact zEv_ret 20 (fun n => rfl)
def Rw_copyFrom_9_20  (I : zI) : Option (zI) :=
  some (zRow I 10 (va_cpy (I 21) (I 10) 0 0 12))
theorem s_Rw_copyFrom_9_20  {I : zI} {I' : zI} (hf : Rw_copyFrom_9_20 I = some I') (d : Nat) (hd : 1 ≤ d) : zCall d 63 [.ref 9, .ref 20] (zHp I) (none) (zHp I') := by
  obtain ⟨d, rfl⟩ : ∃ e, d = e + 1 := ⟨d - 1, by omega⟩
  rw [Rw_copyFrom_9_20] at hf
  show zEv _ _ _ (0, [some (.ref 9), some (.ref 20)], []) _ _ _
  cases hf
  exact zEv_ret 20 (fun n => rfl)
def Rw_copyFrom_11_22  (I : zI) : Option (zI) :=
  some (zRow I 12 (va_cpy (I 23) (I 12) 0 0 8))
theorem s_Rw_copyFrom_11_22  {I : zI} {I' : zI} (hf : Rw_copyFrom_11_22 I = some I') (d : Nat) (hd : 1 ≤ d) : zCall d 63 [.ref 11, .ref 22] (zHp I) (none) (zHp I') := by
  obtain ⟨d, rfl⟩ : ∃ e, d = e + 1 := ⟨d - 1, by omega⟩
  rw [Rw_copyFrom_11_22] at hf
  show zEv _ _ _ (0, [some (.ref 11), some (.ref 22)], []) _ _ _
  cases hf
  exact zEv_ret 20 (fun n => rfl)
def Ga_copyFrom_2_13  (I : zI) : Option (zI) :=
  (Rw_copyFrom_3_14 I).bind fun I437 =>
  (Rw_copyFrom_5_16 I437).bind fun I438 =>
  (Rw_copyFrom_7_18 I438).bind fun I439 =>
  (Rw_copyFrom_9_20 I439).bind fun I440 =>
  (Rw_copyFrom_11_22 I440).bind fun I441 =>
  some (zUp (zUp (zUp I441 2 5 (I441 13 5)) 2 6 ((zUp I441 2 5 (I441 13 5)) 13 6)) 2 7 ((zUp (zUp I441 2 5 (I441 13 5)) 2 6 ((zUp I441 2 5 (I441 13 5)) 13 6)) 13 7))
theorem s_Ga_copyFrom_2_13  {I : zI} {I' : zI} (hf : Ga_copyFrom_2_13 I = some I') (d : Nat) (hd : 2 ≤ d) : zCall d 10 [.ref 2, .ref 13] (zHp I) (none) (zHp I') := by
  obtain ⟨d, rfl⟩ : ∃ e, d = e + 1 := ⟨d - 1, by omega⟩
  rw [Ga_copyFrom_2_13] at hf
  show zEv _ _ _ (0, [some (.ref 2), some (.ref 13)], []) _ _ _
  obtain ⟨I437, hx, hf⟩ := Option.bind_eq_some_iff.mp hf
  refine zEv_call 7 (N := 63) (vs := [.ref 3, .ref 14]) (v1 := none) (h1 := zHp I437) (L := [some (.ref 2), some (.ref 13)]) (rest := []) (pc := 16) (fun n => rfl) (s_Rw_copyFrom_3_14 hx d (by omega)) rfl rfl ?_
  show zEv _ _ _ (16, [some (.ref 2), some (.ref 13)], []) _ _ _
  obtain ⟨I438, hx, hf⟩ := Option.bind_eq_some_iff.mp hf
  refine zEv_call 5 (N := 63) (vs := [.ref 5, .ref 16]) (v1 := none) (h1 := zHp I438) (L := [some (.ref 2), some (.ref 13)]) (rest := []) (pc := 27) (fun n => rfl) (s_Rw_copyFrom_5_16 hx d (by omega)) rfl rfl ?_
  show zEv _ _ _ (27, [some (.ref 2), some (.ref 13)], []) _ _ _
  obtain ⟨I439, hx, hf⟩ := Option.bind_eq_some_iff.mp hf
  refine zEv_call 5 (N := 63) (vs := [.ref 7, .ref 18]) (v1 := none) (h1 := zHp I439) (L := [some (.ref 2), some (.ref 13)]) (rest := []) (pc := 38) (fun n => rfl) (s_Rw_copyFrom_7_18 hx d (by omega)) rfl rfl ?_
  show zEv _ _ _ (38, [some (.ref 2), some (.ref 13)], []) _ _ _
  obtain ⟨I440, hx, hf⟩ := Option.bind_eq_some_iff.mp hf
  refine zEv_call 5 (N := 63) (vs := [.ref 9, .ref 20]) (v1 := none) (h1 := zHp I440) (L := [some (.ref 2), some (.ref 13)]) (rest := []) (pc := 49) (fun n => rfl) (s_Rw_copyFrom_9_20 hx d (by omega)) rfl rfl ?_
  show zEv _ _ _ (49, [some (.ref 2), some (.ref 13)], []) _ _ _
  obtain ⟨I441, hx, hf⟩ := Option.bind_eq_some_iff.mp hf
  refine zEv_call 5 (N := 63) (vs := [.ref 11, .ref 22]) (v1 := none) (h1 := zHp I441) (L := [some (.ref 2), some (.ref 13)]) (rest := []) (pc := 60) (fun n => rfl) (s_Rw_copyFrom_11_22 hx d (by omega)) rfl rfl ?_
  show zEv _ _ _ (60, [some (.ref 2), some (.ref 13)], []) _ _ _
  cases hf
  exact zEv_ret 13 (fun n => rfl)
def Rw_copyFrom_3_25  (I : zI) : Option (zI) :=
  some (zRow I 4 (va_cpy (I 26) (I 4) 0 0 10))
theorem s_Rw_copyFrom_3_25  {I : zI} {I' : zI} (hf : Rw_copyFrom_3_25 I = some I') (d : Nat) (hd : 1 ≤ d) : zCall d 63 [.ref 3, .ref 25] (zHp I) (none) (zHp I') := by
  obtain ⟨d, rfl⟩ : ∃ e, d = e + 1 := ⟨d - 1, by omega⟩
  rw [Rw_copyFrom_3_25] at hf
  show zEv _ _ _ (0, [some (.ref 3), some (.ref 25)], []) _ _ _
  cases hf
  exact zEv_ret 20 (fun n => rfl)
def Rw_copyFrom_5_27  (I : zI) : Option (zI) :=
  some (zRow I 6 (va_cpy (I 28) (I 6) 0 0 8))
theorem s_Rw_copyFrom_5_27  {I : zI} {I' : zI} (hf : Rw_copyFrom_5_27 I = some I') (d : Nat) (hd : 1 ≤ d) : zCall d 63 [.ref 5, .ref 27] (zHp I) (none) (zHp I') := by
  obtain ⟨d, rfl⟩ : ∃ e, d = e + 1 := ⟨d - 1, by omega⟩
  rw [Rw_copyFrom_5_27] at hf
  show zEv _ _ _ (0, [some (.ref 5), some (.ref 27)], []) _ _ _
  cases hf
  exact zEv_ret 20 (fun n => rfl)
def Rw_copyFrom_7_29  (I : zI) : Option (zI) :=
  some (zRow I 8 (va_cpy (I 30) (I 8) 0 0 12))
theorem s_Rw_copyFrom_7_29  {I : zI} {I' : zI} (hf : Rw_copyFrom_7_29 I = some I') (d : Nat) (hd : 1 ≤ d) : zCall d 63 [.ref 7, .ref 29] (zHp I) (none) (zHp I') := by
  obtain ⟨d, rfl⟩ : ∃ e, d = e + 1 := ⟨d - 1, by omega⟩
  rw [Rw_copyFrom_7_29] at hf
  show zEv _ _ _ (0, [some (.ref 7), some (.ref 29)], []) _ _ _
  cases hf
  exact zEv_ret 20 (fun n => rfl)
def Rw_copyFrom_9_31  (I : zI) : Option (zI) :=
  some (zRow I 10 (va_cpy (I 32) (I 10) 0 0 12))
theorem s_Rw_copyFrom_9_31  {I : zI} {I' : zI} (hf : Rw_copyFrom_9_31 I = some I') (d : Nat) (hd : 1 ≤ d) : zCall d 63 [.ref 9, .ref 31] (zHp I) (none) (zHp I') := by
  obtain ⟨d, rfl⟩ : ∃ e, d = e + 1 := ⟨d - 1, by omega⟩
  rw [Rw_copyFrom_9_31] at hf
  show zEv _ _ _ (0, [some (.ref 9), some (.ref 31)], []) _ _ _
  cases hf
  exact zEv_ret 20 (fun n => rfl)
def Rw_copyFrom_11_33  (I : zI) : Option (zI) :=
  some (zRow I 12 (va_cpy (I 34) (I 12) 0 0 8))
theorem s_Rw_copyFrom_11_33  {I : zI} {I' : zI} (hf : Rw_copyFrom_11_33 I = some I') (d : Nat) (hd : 1 ≤ d) : zCall d 63 [.ref 11, .ref 33] (zHp I) (none) (zHp I') := by
  obtain ⟨d, rfl⟩ : ∃ e, d = e + 1 := ⟨d - 1, by omega⟩
  rw [Rw_copyFrom_11_33] at hf
  show zEv _ _ _ (0, [some (.ref 11), some (.ref 33)], []) _ _ _
  cases hf
  exact zEv_ret 20 (fun n => rfl)
def Ga_copyFrom_2_24  (I : zI) : Option (zI) :=
  (Rw_copyFrom_3_25 I).bind fun I443 =>
  (Rw_copyFrom_5_27 I443).bind fun I444 =>
  (Rw_copyFrom_7_29 I444).bind fun I445 =>
  (Rw_copyFrom_9_31 I445).bind fun I446 =>
  (Rw_copyFrom_11_33 I446).bind fun I447 =>
  some (zUp (zUp (zUp I447 2 5 (I447 24 5)) 2 6 ((zUp I447 2 5 (I447 24 5)) 24 6)) 2 7 ((zUp (zUp I447 2 5 (I447 24 5)) 2 6 ((zUp I447 2 5 (I447 24 5)) 24 6)) 24 7))
theorem s_Ga_copyFrom_2_24  {I : zI} {I' : zI} (hf : Ga_copyFrom_2_24 I = some I') (d : Nat) (hd : 2 ≤ d) : zCall d 10 [.ref 2, .ref 24] (zHp I) (none) (zHp I') := by
  obtain ⟨d, rfl⟩ : ∃ e, d = e + 1 := ⟨d - 1, by omega⟩
  rw [Ga_copyFrom_2_24] at hf
  show zEv _ _ _ (0, [some (.ref 2), some (.ref 24)], []) _ _ _
  obtain ⟨I443, hx, hf⟩ := Option.bind_eq_some_iff.mp hf
  refine zEv_call 7 (N := 63) (vs := [.ref 3, .ref 25]) (v1 := none) (h1 := zHp I443) (L := [some (.ref 2), some (.ref 24)]) (rest := []) (pc := 16) (fun n => rfl) (s_Rw_copyFrom_3_25 hx d (by omega)) rfl rfl ?_
  show zEv _ _ _ (16, [some (.ref 2), some (.ref 24)], []) _ _ _
  obtain ⟨I444, hx, hf⟩ := Option.bind_eq_some_iff.mp hf
  refine zEv_call 5 (N := 63) (vs := [.ref 5, .ref 27]) (v1 := none) (h1 := zHp I444) (L := [some (.ref 2), some (.ref 24)]) (rest := []) (pc := 27) (fun n => rfl) (s_Rw_copyFrom_5_27 hx d (by omega)) rfl rfl ?_
  show zEv _ _ _ (27, [some (.ref 2), some (.ref 24)], []) _ _ _
  obtain ⟨I445, hx, hf⟩ := Option.bind_eq_some_iff.mp hf
  refine zEv_call 5 (N := 63) (vs := [.ref 7, .ref 29]) (v1 := none) (h1 := zHp I445) (L := [some (.ref 2), some (.ref 24)]) (rest := []) (pc := 38) (fun n => rfl) (s_Rw_copyFrom_7_29 hx d (by omega)) rfl rfl ?_
  show zEv _ _ _ (38, [some (.ref 2), some (.ref 24)], []) _ _ _
  obtain ⟨I446, hx, hf⟩ := Option.bind_eq_some_iff.mp hf
  refine zEv_call 5 (N := 63) (vs := [.ref 9, .ref 31]) (v1 := none) (h1 := zHp I446) (L := [some (.ref 2), some (.ref 24)]) (rest := []) (pc := 49) (fun n => rfl) (s_Rw_copyFrom_9_31 hx d (by omega)) rfl rfl ?_
  show zEv _ _ _ (49, [some (.ref 2), some (.ref 24)], []) _ _ _
  obtain ⟨I447, hx, hf⟩ := Option.bind_eq_some_iff.mp hf
  refine zEv_call 5 (N := 63) (vs := [.ref 11, .ref 33]) (v1 := none) (h1 := zHp I447) (L := [some (.ref 2), some (.ref 24)]) (rest := []) (pc := 60) (fun n => rfl) (s_Rw_copyFrom_11_33 hx d (by omega)) rfl rfl ?_
  show zEv _ _ _ (60, [some (.ref 2), some (.ref 24)], []) _ _ _
  cases hf
  exact zEv_ret 13 (fun n => rfl)
def BM_restore  (a0 : Int32) (I : zI) : Option (Int32 × zI) :=
  (BM_isWithin a0 0 1 I).bind fun x434 =>
  if x434 = 0 then
    some ((-2), I)
  else
    (BM_has (I 1 10) a0 I).bind fun x435 =>
    if x435 = 0 then
      some ((-3), I)
    else
      if a0 = 0 then
        (Ga_copyFrom_2_13 I).bind fun I442 =>
        some (1, I442)
      else
        (Ga_copyFrom_2_24 I).bind fun I448 =>
        some (1, I448)
theorem s_BM_restore  {a0 : Int32} {I : zI} {r : Int32} {I' : zI} (hf : BM_restore a0 I = some (r, I')) (d : Nat) (hd : 3 ≤ d) : zCall d 106 [.ref 1, .int a0] (zHp I) (some (.int r)) (zHp I') := by
  obtain ⟨d, rfl⟩ : ∃ e, d = e + 1 := ⟨d - 1, by omega⟩
  rw [BM_restore] at hf
  show zEv _ _ _ (0, [some (.ref 1), some (.int a0)], []) _ _ _
  obtain ⟨x434, hx, hf⟩ := Option.bind_eq_some_iff.mp hf
  refine zEv_call 4 (N := 109) (vs := [.int a0, .int 0, .int 1]) (v1 := some (.int x434)) (h1 := zHp I) (L := [some (.ref 1), some (.int a0)]) (rest := []) (pc := 6) (fun n => rfl) (s_BM_isWithin hx d (by omega)) rfl rfl ?_
  show zEv _ _ _ (6, [some (.ref 1), some (.int a0)], [.int x434]) _ _ _
  refine zEv_if 1 (c := x434 = 0) (f1 := (9, [some (.ref 1), some (.int a0)], [])) (f2 := (12, [some (.ref 1), some (.int a0)], [])) (h1 := zHp I) (fun n => rfl) (fun hc => ?_) (fun hc => ?_)
  · rw [if_pos hc] at hf
    cases hf
    exact zEv_ret 2 (fun n => rfl)
  · rw [if_neg hc] at hf
    obtain ⟨x435, hx, hf⟩ := Option.bind_eq_some_iff.mp hf
    refine zEv_call 4 (N := 113) (vs := [.int (I 1 10), .int a0]) (v1 := some (.int x435)) (h1 := zHp I) (L := [some (.ref 1), some (.int a0)]) (rest := []) (pc := 20) (fun n => rfl) (s_BM_has hx d (by omega)) rfl rfl ?_
    show zEv _ _ _ (20, [some (.ref 1), some (.int a0)], [.int x435]) _ _ _
    refine zEv_if 1 (c := x435 = 0) (f1 := (23, [some (.ref 1), some (.int a0)], [])) (f2 := (26, [some (.ref 1), some (.int a0)], [])) (h1 := zHp I) (fun n => rfl) (fun hc => ?_) (fun hc => ?_)
    · rw [if_pos hc] at hf
      cases hf
      exact zEv_ret 2 (fun n => rfl)
    · rw [if_neg hc] at hf
      refine zEv_if 4 (c := a0 = 0) (f1 := (34, [some (.ref 1), some (.int a0)], [.ref 2])) (f2 := (41, [some (.ref 1), some (.int a0)], [.ref 2])) (h1 := zHp I) (fun n => rfl) (fun hc => ?_) (fun hc => ?_)
      · rw [if_pos hc] at hf
        obtain ⟨I442, hx, hf⟩ := Option.bind_eq_some_iff.mp hf
        refine zEv_call 4 (N := 10) (vs := [.ref 2, .ref 13]) (v1 := none) (h1 := zHp I442) (L := [some (.ref 1), some (.int a0)]) (rest := []) (pc := 48) (fun n => rfl) (s_Ga_copyFrom_2_13 hx d (by omega)) rfl rfl ?_
        show zEv _ _ _ (48, [some (.ref 1), some (.int a0)], []) _ _ _
        cases hf
        exact zEv_ret 2 (fun n => rfl)
      · rw [if_neg hc] at hf
        obtain ⟨I448, hx, hf⟩ := Option.bind_eq_some_iff.mp hf
        refine zEv_call 3 (N := 10) (vs := [.ref 2, .ref 24]) (v1 := none) (h1 := zHp I448) (L := [some (.ref 1), some (.int a0)]) (rest := []) (pc := 48) (fun n => rfl) (s_Ga_copyFrom_2_24 hx d (by omega)) rfl rfl ?_
        show zEv _ _ _ (48, [some (.ref 1), some (.int a0)], []) _ _ _
        cases hf
        exact zEv_ret 2 (fun n => rfl)
def Rw_at_9  (a0 : Int32) (I : zI) : Option (Int32) :=
  if a0 < 0 then
    some (-6)
  else
    if 12 ≤ a0 then
      some (-6)
    else
      if zIn a0 12 then
        some (I 10 (Int32.toNatClampNeg a0))
      else none
theorem s_Rw_at_9  {a0 : Int32} {I : zI} {r : Int32} (hf : Rw_at_9 a0 I = some r) (d : Nat) (hd : 0 ≤ d) : zCall d 60 [.ref 9, .int a0] (zHp I) (some (.int r)) (zHp I) := by
  rw [Rw_at_9] at hf
  show zEv _ _ _ (0, [some (.ref 9), some (.int a0)], []) _ _ _
  refine zEv_if 2 (c := a0 < 0) (f1 := (22, [some (.ref 9), some (.int a0)], [])) (f2 := (4, [some (.ref 9), some (.int a0)], [])) (h1 := zHp I) (fun n => rfl) (fun hc => ?_) (fun hc => ?_)
  · rw [if_pos hc] at hf
    cases hf
    exact zEv_ret 2 (fun n => rfl)
  · rw [if_neg hc] at hf
    refine zEv_if 5 (c := 12 ≤ a0) (f1 := (22, [some (.ref 9), some (.int a0)], [])) (f2 := (13, [some (.ref 9), some (.int a0)], [])) (h1 := zHp I) (fun n => rfl) (fun hc => ?_) (fun hc => ?_)
    · rw [if_pos hc] at hf
      cases hf
      exact zEv_ret 2 (fun n => rfl)
    · rw [if_neg hc] at hf
      obtain ⟨hc, hf⟩ := zGd_inv hf
      refine zEv_gd 4 (c := zIn a0 12) (f1 := (19, [some (.ref 9), some (.int a0)], [.int (I 10 (Int32.toNatClampNeg a0))])) (h1 := zHp I) (fun n => rfl) hc ?_
      cases hf
      exact zEv_ret 2 (fun n => rfl)
def Ga_freshOn_2 (n : Nat) (a0 : Int32) (I : zI) : Option (Int32) :=
  (Ga_lyingOn_2 n a0 I).bind fun x458 =>
  if x458 = (-6) then
    some (-6)
  else
    (Rw_at_9 x458 I).bind fun x459 =>
    some x459
theorem s_Ga_freshOn_2 {n : Nat} {a0 : Int32} {I : zI} {r : Int32} (hf : Ga_freshOn_2 n a0 I = some r) (d : Nat) (hd : 3 ≤ d) : zCall d 23 [.ref 2, .int a0] (zHp I) (some (.int r)) (zHp I) := by
  obtain ⟨d, rfl⟩ : ∃ e, d = e + 1 := ⟨d - 1, by omega⟩
  rw [Ga_freshOn_2] at hf
  show zEv _ _ _ (0, [some (.ref 2), some (.int a0), none], []) _ _ _
  obtain ⟨x458, hx, hf⟩ := Option.bind_eq_some_iff.mp hf
  refine zEv_call 3 (N := 21) (vs := [.ref 2, .int a0]) (v1 := some (.int x458)) (h1 := zHp I) (L := [some (.ref 2), some (.int a0), none]) (rest := []) (pc := 5) (fun n => rfl) (s_Ga_lyingOn_2 hx d (by omega)) rfl rfl ?_
  show zEv _ _ _ (5, [some (.ref 2), some (.int a0), none], [.int x458]) _ _ _
  refine zEv_if 4 (c := x458 = (-6)) (f1 := (12, [some (.ref 2), some (.int a0), some (.int x458)], [])) (f2 := (17, [some (.ref 2), some (.int a0), some (.int x458)], [])) (h1 := zHp I) (fun n => rfl) (fun hc => ?_) (fun hc => ?_)
  · rw [if_pos hc] at hf
    cases hf
    exact zEv_ret 3 (fun n => rfl)
  · rw [if_neg hc] at hf
    obtain ⟨x459, hx, hf⟩ := Option.bind_eq_some_iff.mp hf
    refine zEv_call 4 (N := 60) (vs := [.ref 9, .int x458]) (v1 := some (.int x459)) (h1 := zHp I) (L := [some (.ref 2), some (.int a0), some (.int x458)]) (rest := []) (pc := 25) (fun n => rfl) (s_Rw_at_9 hx d (by omega)) rfl rfl ?_
    show zEv _ _ _ (25, [some (.ref 2), some (.int a0), some (.int x458)], [.int x459]) _ _ _
    cases hf
    exact zEv_ret 1 (fun n => rfl)
def BM_toldOfOne (n : Nat) (a0 : Int32) (I : zI) : Option (Int32) :=
  (BM_isBench (a0 - 10) I).bind fun x449 =>
  if x449 = 0 then
    (BM_isBench (a0 - 20) I).bind fun x450 =>
    if x450 = 0 then
      (BM_isBench (a0 - 30) I).bind fun x451 =>
      if x451 = 0 then
        (BM_isOne (a0 - 40) I).bind fun x452 =>
        if x452 = 0 then
          (BM_isOne (a0 - 50) I).bind fun x453 =>
          if x453 = 0 then
            (BM_isMemory (a0 - 100) I).bind fun x454 =>
            if x454 = 0 then
              some (-2)
            else
              (Ga_placeOf_2 (a0 - 100) I).bind fun x455 =>
              some x455
          else
            (Ga_heldBy_2 n (a0 - 50) I).bind fun x456 =>
            some x456
        else
          (Ga_benchOf_2 (a0 - 40) I).bind fun x457 =>
          some x457
      else
        (Ga_freshOn_2 n (a0 - 30) I).bind fun x460 =>
        some x460
    else
      (Ga_lyingOn_2 n (a0 - 20) I).bind fun x461 =>
      some x461
  else
    (Ga_waysFrom_2 (a0 - 10) I).bind fun x462 =>
    some x462
theorem s_BM_toldOfOne {n : Nat} {a0 : Int32} {I : zI} {r : Int32} (hf : BM_toldOfOne n a0 I = some r) (d : Nat) (hd : 4 ≤ d) : zCall d 108 [.ref 1, .int a0] (zHp I) (some (.int r)) (zHp I) := by
  obtain ⟨d, rfl⟩ : ∃ e, d = e + 1 := ⟨d - 1, by omega⟩
  rw [BM_toldOfOne] at hf
  show zEv _ _ _ (0, [some (.ref 1), some (.int a0)], []) _ _ _
  obtain ⟨x449, hx, hf⟩ := Option.bind_eq_some_iff.mp hf
  refine zEv_call 4 (N := 110) (vs := [.int (a0 - 10)]) (v1 := some (.int x449)) (h1 := zHp I) (L := [some (.ref 1), some (.int a0)]) (rest := []) (pc := 7) (fun n => rfl) (s_BM_isBench hx d (by omega)) rfl rfl ?_
  show zEv _ _ _ (7, [some (.ref 1), some (.int a0)], [.int x449]) _ _ _
  refine zEv_if 1 (c := x449 = 0) (f1 := (22, [some (.ref 1), some (.int a0)], [])) (f2 := (10, [some (.ref 1), some (.int a0)], [])) (h1 := zHp I) (fun n => rfl) (fun hc => ?_) (fun hc => ?_)
  · rw [if_pos hc] at hf
    obtain ⟨x450, hx, hf⟩ := Option.bind_eq_some_iff.mp hf
    refine zEv_call 4 (N := 110) (vs := [.int (a0 - 20)]) (v1 := some (.int x450)) (h1 := zHp I) (L := [some (.ref 1), some (.int a0)]) (rest := []) (pc := 29) (fun n => rfl) (s_BM_isBench hx d (by omega)) rfl rfl ?_
    show zEv _ _ _ (29, [some (.ref 1), some (.int a0)], [.int x450]) _ _ _
    refine zEv_if 1 (c := x450 = 0) (f1 := (44, [some (.ref 1), some (.int a0)], [])) (f2 := (32, [some (.ref 1), some (.int a0)], [])) (h1 := zHp I) (fun n => rfl) (fun hc => ?_) (fun hc => ?_)
    · rw [if_pos hc] at hf
      obtain ⟨x451, hx, hf⟩ := Option.bind_eq_some_iff.mp hf
      refine zEv_call 4 (N := 110) (vs := [.int (a0 - 30)]) (v1 := some (.int x451)) (h1 := zHp I) (L := [some (.ref 1), some (.int a0)]) (rest := []) (pc := 51) (fun n => rfl) (s_BM_isBench hx d (by omega)) rfl rfl ?_
      show zEv _ _ _ (51, [some (.ref 1), some (.int a0)], [.int x451]) _ _ _
      refine zEv_if 1 (c := x451 = 0) (f1 := (66, [some (.ref 1), some (.int a0)], [])) (f2 := (54, [some (.ref 1), some (.int a0)], [])) (h1 := zHp I) (fun n => rfl) (fun hc => ?_) (fun hc => ?_)
      · rw [if_pos hc] at hf
        obtain ⟨x452, hx, hf⟩ := Option.bind_eq_some_iff.mp hf
        refine zEv_call 4 (N := 111) (vs := [.int (a0 - 40)]) (v1 := some (.int x452)) (h1 := zHp I) (L := [some (.ref 1), some (.int a0)]) (rest := []) (pc := 73) (fun n => rfl) (s_BM_isOne hx d (by omega)) rfl rfl ?_
        show zEv _ _ _ (73, [some (.ref 1), some (.int a0)], [.int x452]) _ _ _
        refine zEv_if 1 (c := x452 = 0) (f1 := (88, [some (.ref 1), some (.int a0)], [])) (f2 := (76, [some (.ref 1), some (.int a0)], [])) (h1 := zHp I) (fun n => rfl) (fun hc => ?_) (fun hc => ?_)
        · rw [if_pos hc] at hf
          obtain ⟨x453, hx, hf⟩ := Option.bind_eq_some_iff.mp hf
          refine zEv_call 4 (N := 111) (vs := [.int (a0 - 50)]) (v1 := some (.int x453)) (h1 := zHp I) (L := [some (.ref 1), some (.int a0)]) (rest := []) (pc := 95) (fun n => rfl) (s_BM_isOne hx d (by omega)) rfl rfl ?_
          show zEv _ _ _ (95, [some (.ref 1), some (.int a0)], [.int x453]) _ _ _
          refine zEv_if 1 (c := x453 = 0) (f1 := (110, [some (.ref 1), some (.int a0)], [])) (f2 := (98, [some (.ref 1), some (.int a0)], [])) (h1 := zHp I) (fun n => rfl) (fun hc => ?_) (fun hc => ?_)
          · rw [if_pos hc] at hf
            obtain ⟨x454, hx, hf⟩ := Option.bind_eq_some_iff.mp hf
            refine zEv_call 4 (N := 112) (vs := [.int (a0 - 100)]) (v1 := some (.int x454)) (h1 := zHp I) (L := [some (.ref 1), some (.int a0)]) (rest := []) (pc := 117) (fun n => rfl) (s_BM_isMemory hx d (by omega)) rfl rfl ?_
            show zEv _ _ _ (117, [some (.ref 1), some (.int a0)], [.int x454]) _ _ _
            refine zEv_if 1 (c := x454 = 0) (f1 := (134, [some (.ref 1), some (.int a0)], [])) (f2 := (120, [some (.ref 1), some (.int a0)], [])) (h1 := zHp I) (fun n => rfl) (fun hc => ?_) (fun hc => ?_)
            · rw [if_pos hc] at hf
              cases hf
              exact zEv_ret 2 (fun n => rfl)
            · rw [if_neg hc] at hf
              obtain ⟨x455, hx, hf⟩ := Option.bind_eq_some_iff.mp hf
              refine zEv_call 6 (N := 19) (vs := [.ref 2, .int (a0 - 100)]) (v1 := some (.int x455)) (h1 := zHp I) (L := [some (.ref 1), some (.int a0)]) (rest := []) (pc := 131) (fun n => rfl) (s_Ga_placeOf_2 hx d (by omega)) rfl rfl ?_
              show zEv _ _ _ (131, [some (.ref 1), some (.int a0)], [.int x455]) _ _ _
              cases hf
              exact zEv_ret 2 (fun n => rfl)
          · rw [if_neg hc] at hf
            obtain ⟨x456, hx, hf⟩ := Option.bind_eq_some_iff.mp hf
            refine zEv_call 6 (N := 20) (vs := [.ref 2, .int (a0 - 50)]) (v1 := some (.int x456)) (h1 := zHp I) (L := [some (.ref 1), some (.int a0)]) (rest := []) (pc := 109) (fun n => rfl) (s_Ga_heldBy_2 hx d (by omega)) rfl rfl ?_
            show zEv _ _ _ (109, [some (.ref 1), some (.int a0)], [.int x456]) _ _ _
            cases hf
            exact zEv_ret 1 (fun n => rfl)
        · rw [if_neg hc] at hf
          obtain ⟨x457, hx, hf⟩ := Option.bind_eq_some_iff.mp hf
          refine zEv_call 6 (N := 18) (vs := [.ref 2, .int (a0 - 40)]) (v1 := some (.int x457)) (h1 := zHp I) (L := [some (.ref 1), some (.int a0)]) (rest := []) (pc := 87) (fun n => rfl) (s_Ga_benchOf_2 hx d (by omega)) rfl rfl ?_
          show zEv _ _ _ (87, [some (.ref 1), some (.int a0)], [.int x457]) _ _ _
          cases hf
          exact zEv_ret 1 (fun n => rfl)
      · rw [if_neg hc] at hf
        obtain ⟨x460, hx, hf⟩ := Option.bind_eq_some_iff.mp hf
        refine zEv_call 6 (N := 23) (vs := [.ref 2, .int (a0 - 30)]) (v1 := some (.int x460)) (h1 := zHp I) (L := [some (.ref 1), some (.int a0)]) (rest := []) (pc := 65) (fun n => rfl) (s_Ga_freshOn_2 hx d (by omega)) rfl rfl ?_
        show zEv _ _ _ (65, [some (.ref 1), some (.int a0)], [.int x460]) _ _ _
        cases hf
        exact zEv_ret 1 (fun n => rfl)
    · rw [if_neg hc] at hf
      obtain ⟨x461, hx, hf⟩ := Option.bind_eq_some_iff.mp hf
      refine zEv_call 6 (N := 21) (vs := [.ref 2, .int (a0 - 20)]) (v1 := some (.int x461)) (h1 := zHp I) (L := [some (.ref 1), some (.int a0)]) (rest := []) (pc := 43) (fun n => rfl) (s_Ga_lyingOn_2 hx d (by omega)) rfl rfl ?_
      show zEv _ _ _ (43, [some (.ref 1), some (.int a0)], [.int x461]) _ _ _
      cases hf
      exact zEv_ret 1 (fun n => rfl)
  · rw [if_neg hc] at hf
    obtain ⟨x462, hx, hf⟩ := Option.bind_eq_some_iff.mp hf
    refine zEv_call 6 (N := 11) (vs := [.ref 2, .int (a0 - 10)]) (v1 := some (.int x462)) (h1 := zHp I) (L := [some (.ref 1), some (.int a0)]) (rest := []) (pc := 21) (fun n => rfl) (s_Ga_waysFrom_2 hx d (by omega)) rfl rfl ?_
    show zEv _ _ _ (21, [some (.ref 1), some (.int a0)], [.int x462]) _ _ _
    cases hf
    exact zEv_ret 1 (fun n => rfl)
def BM_told (n : Nat) (a0 : Int32) (I : zI) : Option (Int32) :=
  if a0 = 0 then
    some (I 35 1)
  else if a0 = 1 then
    some (I 2 6)
  else if a0 = 2 then
    some (I 2 7)
  else if a0 = 3 then
    some (I 2 5)
  else
    (BM_toldOfOne n a0 I).bind fun x463 =>
    some x463
theorem s_BM_told {n : Nat} {a0 : Int32} {I : zI} {r : Int32} (hf : BM_told n a0 I = some r) (d : Nat) (hd : 5 ≤ d) : zCall d 107 [.ref 1, .int a0] (zHp I) (some (.int r)) (zHp I) := by
  obtain ⟨d, rfl⟩ : ∃ e, d = e + 1 := ⟨d - 1, by omega⟩
  rw [BM_told] at hf
  show zEv _ _ _ (0, [some (.ref 1), some (.int a0)], []) _ _ _
  refine zEv_go 1 (f1 := (1, [some (.ref 1), some (.int a0)], [.int a0])) (h1 := zHp I) (fun n => rfl) ?_
  by_cases hc0 : a0 = 0
  · rw [if_pos hc0] at hf
    refine zEv_tsk (off := 31) (t := 32) 0 (by rfl) hc0 (by decide) rfl rfl ?_
    cases hf
    exact zEv_ret 4 (fun n => rfl)
  rw [if_neg hc0] at hf
  by_cases hc1 : a0 = 1
  · rw [if_pos hc1] at hf
    refine zEv_tsk (off := 39) (t := 40) 1 (by rfl) hc1 (by decide) rfl rfl ?_
    cases hf
    exact zEv_ret 4 (fun n => rfl)
  rw [if_neg hc1] at hf
  by_cases hc2 : a0 = 2
  · rw [if_pos hc2] at hf
    refine zEv_tsk (off := 47) (t := 48) 2 (by rfl) hc2 (by decide) rfl rfl ?_
    cases hf
    exact zEv_ret 4 (fun n => rfl)
  rw [if_neg hc2] at hf
  by_cases hc3 : a0 = 3
  · rw [if_pos hc3] at hf
    refine zEv_tsk (off := 55) (t := 56) 3 (by rfl) hc3 (by decide) rfl rfl ?_
    cases hf
    exact zEv_ret 4 (fun n => rfl)
  rw [if_neg hc3] at hf
  have hn0 := zNt (k := 0) hc0 (by decide)
  have hn1 := zNt (k := 1) hc1 (by decide)
  have hn2 := zNt (k := 2) hc2 (by decide)
  have hn3 := zNt (k := 3) hc3 (by decide)
  refine zEv_tsd (t := 64) (by rfl) (by omega) rfl ?_
  obtain ⟨x463, hx, hf⟩ := Option.bind_eq_some_iff.mp hf
  refine zEv_call 3 (N := 108) (vs := [.ref 1, .int a0]) (v1 := some (.int x463)) (h1 := zHp I) (L := [some (.ref 1), some (.int a0)]) (rest := []) (pc := 69) (fun n => rfl) (s_BM_toldOfOne hx d (by omega)) rfl rfl ?_
  show zEv _ _ _ (69, [some (.ref 1), some (.int a0)], [.int x463]) _ _ _
  cases hf
  exact zEv_ret 1 (fun n => rfl)
def Mo_in  (a0 : Int64) (a1 : Int64) (a2 : Int64) (I : zI) : Option (Int32) :=
  if (lg_cmp a0 a1) < 0 then
    some 0
  else
    if 0 < (lg_cmp a0 a2) then
      some 0
    else
      some 1
theorem s_Mo_in  {a0 : Int64} {a1 : Int64} {a2 : Int64} {I : zI} {r : Int32} (hf : Mo_in a0 a1 a2 I = some r) (d : Nat) (hd : 0 ≤ d) : zCall d 117 [.long a0, .long a1, .long a2] (zHp I) (some (.int r)) (zHp I) := by
  rw [Mo_in] at hf
  show zEv _ _ _ (0, [some (.long a0), none, some (.long a1), none, some (.long a2), none], []) _ _ _
  refine zEv_if 4 (c := (lg_cmp a0 a1) < 0) (f1 := (17, [some (.long a0), none, some (.long a1), none, some (.long a2), none], [])) (f2 := (6, [some (.long a0), none, some (.long a1), none, some (.long a2), none], [])) (h1 := zHp I) (fun n => rfl) (fun hc => ?_) (fun hc => ?_)
  · rw [if_pos hc] at hf
    cases hf
    exact zEv_ret 2 (fun n => rfl)
  · rw [if_neg hc] at hf
    refine zEv_if 4 (c := 0 < (lg_cmp a0 a2)) (f1 := (17, [some (.long a0), none, some (.long a1), none, some (.long a2), none], [])) (f2 := (13, [some (.long a0), none, some (.long a1), none, some (.long a2), none], [])) (h1 := zHp I) (fun n => rfl) (fun hc => ?_) (fun hc => ?_)
    · rw [if_pos hc] at hf
      cases hf
      exact zEv_ret 2 (fun n => rfl)
    · rw [if_neg hc] at hf
      cases hf
      exact zEv_ret 3 (fun n => rfl)
def Mo_isBench  (a0 : Int32) (I : zI) : Option (Int32) :=
  (Mo_in (Int32.toInt64 a0) 0 9 I).bind fun x464 =>
  if x464 = 0 ∨ x464 = 1 then some x464 else none
theorem s_Mo_isBench  {a0 : Int32} {I : zI} {r : Int32} (hf : Mo_isBench a0 I = some r) (d : Nat) (hd : 1 ≤ d) : zCall d 118 [.int a0] (zHp I) (some (.int r)) (zHp I) := by
  obtain ⟨d, rfl⟩ : ∃ e, d = e + 1 := ⟨d - 1, by omega⟩
  rw [Mo_isBench] at hf
  show zEv _ _ _ (0, [some (.int a0)], []) _ _ _
  obtain ⟨x464, hx, hf⟩ := Option.bind_eq_some_iff.mp hf
  refine zEv_call 5 (N := 117) (vs := [.long (Int32.toInt64 a0), .long 0, .long 9]) (v1 := some (.int x464)) (h1 := zHp I) (L := [some (.int a0)]) (rest := []) (pc := 9) (fun n => rfl) (s_Mo_in hx d (by omega)) rfl rfl ?_
  show zEv _ _ _ (9, [some (.int a0)], [.int x464]) _ _ _
  obtain ⟨hc, hf⟩ := zGd_inv hf
  cases hf
  exact zEv_rt hc 1 (fun n => rfl)
def Mo_with  (a0 : Int32) (a1 : Int32) (a2 : Int32) (I : zI) : Option (Int32) :=
  if a2 = 0 then
    some (a0 &&& ((zShl 1 a1) ^^^ (-1)))
  else
    some (a0 ||| (zShl 1 a1))
theorem s_Mo_with  {a0 : Int32} {a1 : Int32} {a2 : Int32} {I : zI} {r : Int32} (hf : Mo_with a0 a1 a2 I = some r) (d : Nat) (hd : 0 ≤ d) : zCall d 122 [.int a0, .int a1, .int a2] (zHp I) (some (.int r)) (zHp I) := by
  rw [Mo_with] at hf
  show zEv _ _ _ (0, [some (.int a0), some (.int a1), some (.int a2)], []) _ _ _
  refine zEv_if 2 (c := a2 = 0) (f1 := (12, [some (.int a0), some (.int a1), some (.int a2)], [])) (f2 := (4, [some (.int a0), some (.int a1), some (.int a2)], [])) (h1 := zHp I) (fun n => rfl) (fun hc => ?_) (fun hc => ?_)
  · rw [if_pos hc] at hf
    cases hf
    exact zEv_ret 8 (fun n => rfl)
  · rw [if_neg hc] at hf
    cases hf
    exact zEv_ret 7 (fun n => rfl)
