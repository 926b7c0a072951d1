set_option maxRecDepth 100000
def Mo_manyLost_L4 : Nat → Int32 → Int32 → zI → Option (Int32)
  | 0, _, _, _ => none
  | n + 1, v1, v2, I =>
    if 12 ≤ v2 then
      some v1
    else
      (Mo_whereIs n v2 I).bind fun x773 =>
      (
        if 0 ≤ x773 then
          some 0
        else
          some 1 : Option (Int32)).bind fun x775 =>
      Mo_manyLost_L4 n (v1 + x775) (v2 + 1) I
theorem s_Mo_manyLost_L4 (d : Nat) (hd : 1 ≤ d) : ∀ (n : Nat) {v1 : Int32} {v2 : Int32} {I : zI} {y1 : Int32} {v : Option Value} {h' : zH}, Mo_manyLost_L4 n v1 v2 I = some y1 → zEv none d 184 (32, [some (.ref 73), some (.int y1), none], []) (zHp I) v h' → zEv none d 184 (4, [some (.ref 73), some (.int v1), some (.int v2)], []) (zHp I) v h' := by
  obtain ⟨d, rfl⟩ : ∃ e, d = e + 1 := ⟨d - 1, by omega⟩
  intro n
  induction n with
  | zero => intros; rename_i hf _; cases hf
  | succ n ih =>
    intro v1 v2 I y1 v h' hf kk
    rw [Mo_manyLost_L4] at hf
    refine zEv_if 3 (c := 12 ≤ v2) (f1 := (32, [some (.ref 73), some (.int v1), some (.int v2)], [])) (f2 := (10, [some (.ref 73), some (.int v1), some (.int v2)], [])) (h1 := zHp I) (fun n => rfl) (fun hc => ?_) (fun hc => ?_)
    · rw [if_pos hc] at hf
      obtain rfl := Option.some.inj hf
      exact zEv_weak (L := [some (.ref 73), some (.int v1), none]) (by exact ⟨rfl, ⟨rfl, ⟨rfl, trivial⟩⟩⟩) kk
    · rw [if_neg hc] at hf
      obtain ⟨x773, hx, hf⟩ := Option.bind_eq_some_iff.mp hf
      refine zEv_call 4 (N := 126) (vs := [.ref 73, .int v2]) (v1 := some (.int x773)) (h1 := zHp I) (L := [some (.ref 73), some (.int v1), some (.int v2)]) (rest := [.int v1]) (pc := 16) (fun n => rfl) (s_Mo_whereIs hx d (by omega)) rfl rfl ?_
      show zEv _ _ _ (16, [some (.ref 73), some (.int v1), some (.int v2)], [.int x773, .int v1]) _ _ _
      obtain ⟨x775, hm_m774, hf⟩ := Option.bind_eq_some_iff.mp hf
      have hJ_m774 : zEv none (d + 1) 184 (24, [some (.ref 73), none, some (.int v2)], [.int x775, .int v1]) (zHp I) v h' := by
        refine zEv_go 4 (f1 := (4, [some (.ref 73), some (.int (v1 + x775)), some (.int (v2 + 1))], [])) (h1 := zHp I) (fun n => rfl) ?_
        refine zEv_weak (L := [some (.ref 73), some (.int (v1 + x775)), some (.int (v2 + 1))]) (by exact ⟨rfl, ⟨rfl, ⟨rfl, trivial⟩⟩⟩) ?_
        exact ih hf kk
      clear hf
      refine zEv_if 1 (c := 0 ≤ x773) (f1 := (23, [some (.ref 73), some (.int v1), some (.int v2)], [.int v1])) (f2 := (19, [some (.ref 73), some (.int v1), some (.int v2)], [.int v1])) (h1 := zHp I) (fun n => rfl) (fun hc => ?_) (fun hc => ?_)
      · rw [if_pos hc] at hm_m774
        obtain rfl := Option.some.inj hm_m774
        refine zEv_go 1 (f1 := (24, [some (.ref 73), some (.int v1), some (.int v2)], [.int 0, .int v1])) (h1 := zHp I) (fun n => rfl) ?_
        exact zEv_weak (L := [some (.ref 73), none, some (.int v2)]) (by exact ⟨rfl, ⟨rfl, ⟨rfl, trivial⟩⟩⟩) hJ_m774
      · rw [if_neg hc] at hm_m774
        obtain rfl := Option.some.inj hm_m774
        refine zEv_go 2 (f1 := (24, [some (.ref 73), some (.int v1), some (.int v2)], [.int 1, .int v1])) (h1 := zHp I) (fun n => rfl) ?_
        exact zEv_weak (L := [some (.ref 73), none, some (.int v2)]) (by exact ⟨rfl, ⟨rfl, ⟨rfl, trivial⟩⟩⟩) hJ_m774
def Mo_manyLost (n : Nat) (I : zI) : Option (Int32) :=
  (Mo_manyLost_L4 n 0 0 I).bind fun x776 =>
  some x776
theorem s_Mo_manyLost {n : Nat} {I : zI} {r : Int32} (hf : Mo_manyLost n I = some r) (d : Nat) (hd : 1 ≤ d) : zCall d 184 [.ref 73] (zHp I) (some (.int r)) (zHp I) := by
  obtain ⟨d, rfl⟩ : ∃ e, d = e + 1 := ⟨d - 1, by omega⟩
  rw [Mo_manyLost] at hf
  show zEv _ _ _ (0, [some (.ref 73), none, none], []) _ _ _
  obtain ⟨x776, hx, hf⟩ := Option.bind_eq_some_iff.mp hf
  refine zEv_go 4 (f1 := (4, [some (.ref 73), some (.int 0), some (.int 0)], [])) (h1 := zHp I) (fun n => rfl) ?_
  refine zEv_weak (L := [some (.ref 73), some (.int 0), some (.int 0)]) (by exact ⟨rfl, ⟨rfl, ⟨rfl, trivial⟩⟩⟩) (s_Mo_manyLost_L4 (d + 1) (by omega) n hx ?_)
  cases hf
  exact zEv_ret 2 (fun n => rfl)
def Mo_manyLie_L4 : Nat → Int32 → Int32 → zI → Option (Int32)
  | 0, _, _, _ => none
  | n + 1, v1, v2, I =>
    if 10 ≤ v2 then
      some v1
    else
      if zIn v2 10 then
        (
          if (I 77 (Int32.toNatClampNeg v2)) < 0 then
            some 0
          else
            some 1 : Option (Int32)).bind fun x779 =>
        Mo_manyLie_L4 n (v1 + x779) (v2 + 1) I
      else none
theorem s_Mo_manyLie_L4 (d : Nat) (hd : 0 ≤ d) : ∀ (n : Nat) {v1 : Int32} {v2 : Int32} {I : zI} {y1 : Int32} {v : Option Value} {h' : zH}, Mo_manyLie_L4 n v1 v2 I = some y1 → zEv none d 183 (33, [some (.ref 73), some (.int y1), none], []) (zHp I) v h' → zEv none d 183 (4, [some (.ref 73), some (.int v1), some (.int v2)], []) (zHp I) v h' := by
  intro n
  induction n with
  | zero => intros; rename_i hf _; cases hf
  | succ n ih =>
    intro v1 v2 I y1 v h' hf kk
    rw [Mo_manyLie_L4] at hf
    refine zEv_if 3 (c := 10 ≤ v2) (f1 := (33, [some (.ref 73), some (.int v1), some (.int v2)], [])) (f2 := (10, [some (.ref 73), some (.int v1), some (.int v2)], [])) (h1 := zHp I) (fun n => rfl) (fun hc => ?_) (fun hc => ?_)
    · rw [if_pos hc] at hf
      obtain rfl := Option.some.inj hf
      exact zEv_weak (L := [some (.ref 73), some (.int v1), none]) (by exact ⟨rfl, ⟨rfl, ⟨rfl, trivial⟩⟩⟩) kk
    · rw [if_neg hc] at hf
      obtain ⟨hc, hf⟩ := zGd_inv hf
      refine zEv_gd 5 (c := zIn v2 10) (f1 := (17, [some (.ref 73), some (.int v1), some (.int v2)], [.int (I 77 (Int32.toNatClampNeg v2)), .int v1])) (h1 := zHp I) (fun n => rfl) hc ?_
      obtain ⟨x779, hm_m778, hf⟩ := Option.bind_eq_some_iff.mp hf
      have hJ_m778 : zEv none (d) 183 (25, [some (.ref 73), none, some (.int v2)], [.int x779, .int v1]) (zHp I) v h' := by
        refine zEv_go 4 (f1 := (4, [some (.ref 73), some (.int (v1 + x779)), some (.int (v2 + 1))], [])) (h1 := zHp I) (fun n => rfl) ?_
        refine zEv_weak (L := [some (.ref 73), some (.int (v1 + x779)), some (.int (v2 + 1))]) (by exact ⟨rfl, ⟨rfl, ⟨rfl, trivial⟩⟩⟩) ?_
        exact ih hf kk
      clear hf
      refine zEv_if 1 (c := (I 77 (Int32.toNatClampNeg v2)) < 0) (f1 := (24, [some (.ref 73), some (.int v1), some (.int v2)], [.int v1])) (f2 := (20, [some (.ref 73), some (.int v1), some (.int v2)], [.int v1])) (h1 := zHp I) (fun n => rfl) (fun hc => ?_) (fun hc => ?_)
      · rw [if_pos hc] at hm_m778
        obtain rfl := Option.some.inj hm_m778
        refine zEv_go 1 (f1 := (25, [some (.ref 73), some (.int v1), some (.int v2)], [.int 0, .int v1])) (h1 := zHp I) (fun n => rfl) ?_
        exact zEv_weak (L := [some (.ref 73), none, some (.int v2)]) (by exact ⟨rfl, ⟨rfl, ⟨rfl, trivial⟩⟩⟩) hJ_m778
      · rw [if_neg hc] at hm_m778
        obtain rfl := Option.some.inj hm_m778
        refine zEv_go 2 (f1 := (25, [some (.ref 73), some (.int v1), some (.int v2)], [.int 1, .int v1])) (h1 := zHp I) (fun n => rfl) ?_
        exact zEv_weak (L := [some (.ref 73), none, some (.int v2)]) (by exact ⟨rfl, ⟨rfl, ⟨rfl, trivial⟩⟩⟩) hJ_m778
def Mo_manyLie (n : Nat) (I : zI) : Option (Int32) :=
  (Mo_manyLie_L4 n 0 0 I).bind fun x780 =>
  some x780
theorem s_Mo_manyLie {n : Nat} {I : zI} {r : Int32} (hf : Mo_manyLie n I = some r) (d : Nat) (hd : 0 ≤ d) : zCall d 183 [.ref 73] (zHp I) (some (.int r)) (zHp I) := by
  rw [Mo_manyLie] at hf
  show zEv _ _ _ (0, [some (.ref 73), none, none], []) _ _ _
  obtain ⟨x780, hx, hf⟩ := Option.bind_eq_some_iff.mp hf
  refine zEv_go 4 (f1 := (4, [some (.ref 73), some (.int 0), some (.int 0)], [])) (h1 := zHp I) (fun n => rfl) ?_
  refine zEv_weak (L := [some (.ref 73), some (.int 0), some (.int 0)]) (by exact ⟨rfl, ⟨rfl, ⟨rfl, trivial⟩⟩⟩) (s_Mo_manyLie_L4 (d) (by omega) n hx ?_)
  cases hf
  exact zEv_ret 2 (fun n => rfl)
def Mo_season_L49 : Nat → Int32 → Int32 → Int32 → Int32 → zI → Option (zI)
  | 0, _, _, _, _, _ => none
  | n + 1, v2, v3, v4, v5, I =>
    if v2 ≤ v5 then
      some I
    else
      (Mo_seasonOne n (zRem (Int64.toInt32 (zLrem ((75 * (Int32.toInt64 v4)) + 74) 65537)) 8) (zRem ((Int64.toInt32 (zLrem ((75 * (Int32.toInt64 v4)) + 74) 65537)) / 8) 8) ((Int64.toInt32 (zLrem ((75 * (Int32.toInt64 v4)) + 74) 65537)) / 64) I).bind fun I770 =>
      Mo_season_L49 n v2 v3 (Int64.toInt32 (zLrem ((75 * (Int32.toInt64 v4)) + 74) 65537)) (v5 + 1) I770
theorem s_Mo_season_L49 (d : Nat) (hd : 4 ≤ d) : ∀ (n : Nat) {v2 : Int32} {v3 : Int32} {v4 : Int32} {v5 : Int32} {I : zI}  {I' : zI} {v : Option Value} {h' : zH}, Mo_season_L49 n v2 v3 v4 v5 I = some I' → zEv none d 185 (101, [some (.ref 73), none, none, some (.int v3), none, none], []) (zHp I') v h' → zEv none d 185 (49, [some (.ref 73), none, some (.int v2), some (.int v3), some (.int v4), some (.int v5)], []) (zHp I) v h' := by
  obtain ⟨d, rfl⟩ : ∃ e, d = e + 1 := ⟨d - 1, by omega⟩
  intro n
  induction n with
  | zero => intros; rename_i hf _; cases hf
  | succ n ih =>
    intro v2 v3 v4 v5 I I' v h' hf kk
    rw [Mo_season_L49] at hf
    refine zEv_if 3 (c := v2 ≤ v5) (f1 := (101, [some (.ref 73), none, some (.int v2), some (.int v3), some (.int v4), some (.int v5)], [])) (f2 := (55, [some (.ref 73), none, some (.int v2), some (.int v3), some (.int v4), some (.int v5)], [])) (h1 := zHp I) (fun n => rfl) (fun hc => ?_) (fun hc => ?_)
    · rw [if_pos hc] at hf
      obtain rfl := Option.some.inj hf
      exact zEv_weak (L := [some (.ref 73), none, none, some (.int v3), none, none]) (by exact ⟨rfl, ⟨rfl, ⟨rfl, ⟨rfl, ⟨rfl, ⟨rfl, trivial⟩⟩⟩⟩⟩⟩) kk
    · rw [if_neg hc] at hf
      obtain ⟨I770, hx, hf⟩ := Option.bind_eq_some_iff.mp hf
      refine zEv_call 23 (N := 182) (vs := [.ref 73, .int (zRem (Int64.toInt32 (zLrem ((75 * (Int32.toInt64 v4)) + 74) 65537)) 8), .int (zRem ((Int64.toInt32 (zLrem ((75 * (Int32.toInt64 v4)) + 74) 65537)) / 8) 8), .int ((Int64.toInt32 (zLrem ((75 * (Int32.toInt64 v4)) + 74) 65537)) / 64)]) (v1 := none) (h1 := zHp I770) (L := [some (.ref 73), none, some (.int v2), some (.int v3), some (.int (Int64.toInt32 (zLrem ((75 * (Int32.toInt64 v4)) + 74) 65537))), some (.int v5)]) (rest := []) (pc := 95) (fun n => rfl) (s_Mo_seasonOne hx d (by omega)) rfl rfl ?_
      show zEv _ _ _ (95, [some (.ref 73), none, some (.int v2), some (.int v3), some (.int (Int64.toInt32 (zLrem ((75 * (Int32.toInt64 v4)) + 74) 65537))), some (.int v5)], []) _ _ _
      refine zEv_go 2 (f1 := (49, [some (.ref 73), none, some (.int v2), some (.int v3), some (.int (Int64.toInt32 (zLrem ((75 * (Int32.toInt64 v4)) + 74) 65537))), some (.int (v5 + 1))], [])) (h1 := zHp I770) (fun n => rfl) ?_
      refine zEv_weak (L := [some (.ref 73), none, some (.int v2), some (.int v3), some (.int (Int64.toInt32 (zLrem ((75 * (Int32.toInt64 v4)) + 74) 65537))), some (.int (v5 + 1))]) (by exact ⟨rfl, ⟨rfl, ⟨rfl, ⟨rfl, ⟨rfl, ⟨rfl, trivial⟩⟩⟩⟩⟩⟩) ?_
      exact ih hf kk
def Mo_season (n : Nat) (a0 : Int32) (a1 : Int32) (a2 : Int32) (I : zI) : Option (Int32 × zI) :=
  (Mo_in (Int32.toInt64 a0) 0 9999 I).bind fun x758 =>
  if x758 = 0 then
    some ((-2), I)
  else
    (Mo_in (Int32.toInt64 a1) 1 99 I).bind fun x759 =>
    if x759 = 0 then
      some ((-2), I)
    else
      (Mo_in (Int32.toInt64 a2) 0 2 I).bind fun x760 =>
      if x760 = 0 then
        some ((-2), I)
      else
        (Mo_keepNow n I).bind fun I761 =>
        (Mo_season_L49 n a1 a2 a0 0 I761).bind fun I771 =>
        (
          if a2 = 0 then
            (Mo_manyLost n I771).bind fun x777 =>
            some x777
          else
            if a2 = 1 then
              (Mo_manyLie n I771).bind fun x781 =>
              some x781
            else
              some (I771 73 6) : Option (Int32)).bind fun x782 =>
        (Mo_back n x782 I771).bind fun (x783, I784) =>
        some (x783, I784)
theorem s_Mo_season {n : Nat} {a0 : Int32} {a1 : Int32} {a2 : Int32} {I : zI} {r : Int32} {I' : zI} (hf : Mo_season n a0 a1 a2 I = some (r, I')) (d : Nat) (hd : 4 ≤ d) : zCall d 185 [.ref 73, .int a0, .int a1, .int a2] (zHp I) (some (.int r)) (zHp I') := by
  obtain ⟨d, rfl⟩ : ∃ e, d = e + 1 := ⟨d - 1, by omega⟩
  rw [Mo_season] at hf
  show zEv _ _ _ (0, [some (.ref 73), some (.int a0), some (.int a1), some (.int a2), none, none], []) _ _ _
  obtain ⟨x758, hx, hf⟩ := Option.bind_eq_some_iff.mp hf
  refine zEv_call 5 (N := 117) (vs := [.long (Int32.toInt64 a0), .long 0, .long 9999]) (v1 := some (.int x758)) (h1 := zHp I) (L := [some (.ref 73), some (.int a0), some (.int a1), some (.int a2), none, none]) (rest := []) (pc := 9) (fun n => rfl) (s_Mo_in hx d (by omega)) rfl rfl ?_
  show zEv _ _ _ (9, [some (.ref 73), some (.int a0), some (.int a1), some (.int a2), none, none], [.int x758]) _ _ _
  refine zEv_if 1 (c := x758 = 0) (f1 := (36, [some (.ref 73), some (.int a0), some (.int a1), some (.int a2), none, none], [])) (f2 := (12, [some (.ref 73), some (.int a0), some (.int a1), some (.int a2), none, none], [])) (h1 := zHp I) (fun n => rfl) (fun hc => ?_) (fun hc => ?_)
  · rw [if_pos hc] at hf
    cases hf
    exact zEv_ret 2 (fun n => rfl)
  · rw [if_neg hc] at hf
    obtain ⟨x759, hx, hf⟩ := Option.bind_eq_some_iff.mp hf
    refine zEv_call 5 (N := 117) (vs := [.long (Int32.toInt64 a1), .long 1, .long 99]) (v1 := some (.int x759)) (h1 := zHp I) (L := [some (.ref 73), some (.int a0), some (.int a1), some (.int a2), none, none]) (rest := []) (pc := 21) (fun n => rfl) (s_Mo_in hx d (by omega)) rfl rfl ?_
    show zEv _ _ _ (21, [some (.ref 73), some (.int a0), some (.int a1), some (.int a2), none, none], [.int x759]) _ _ _
    refine zEv_if 1 (c := x759 = 0) (f1 := (36, [some (.ref 73), some (.int a0), some (.int a1), some (.int a2), none, none], [])) (f2 := (24, [some (.ref 73), some (.int a0), some (.int a1), some (.int a2), none, none], [])) (h1 := zHp I) (fun n => rfl) (fun hc => ?_) (fun hc => ?_)
    · rw [if_pos hc] at hf
      cases hf
      exact zEv_ret 2 (fun n => rfl)
    · rw [if_neg hc] at hf
      obtain ⟨x760, hx, hf⟩ := Option.bind_eq_some_iff.mp hf
      refine zEv_call 5 (N := 117) (vs := [.long (Int32.toInt64 a2), .long 0, .long 2]) (v1 := some (.int x760)) (h1 := zHp I) (L := [some (.ref 73), some (.int a0), some (.int a1), some (.int a2), none, none]) (rest := []) (pc := 33) (fun n => rfl) (s_Mo_in hx d (by omega)) rfl rfl ?_
      show zEv _ _ _ (33, [some (.ref 73), some (.int a0), some (.int a1), some (.int a2), none, none], [.int x760]) _ _ _
      refine zEv_if 1 (c := x760 = 0) (f1 := (36, [some (.ref 73), some (.int a0), some (.int a1), some (.int a2), none, none], [])) (f2 := (39, [some (.ref 73), some (.int a0), some (.int a1), some (.int a2), none, none], [])) (h1 := zHp I) (fun n => rfl) (fun hc => ?_) (fun hc => ?_)
      · rw [if_pos hc] at hf
        cases hf
        exact zEv_ret 2 (fun n => rfl)
      · rw [if_neg hc] at hf
        obtain ⟨I761, hx, hf⟩ := Option.bind_eq_some_iff.mp hf
        refine zEv_call 2 (N := 147) (vs := [.ref 73]) (v1 := none) (h1 := zHp I761) (L := [some (.ref 73), some (.int a0), some (.int a1), some (.int a2), none, none]) (rest := []) (pc := 43) (fun n => rfl) (s_Mo_keepNow hx d (by omega)) rfl rfl ?_
        show zEv _ _ _ (43, [some (.ref 73), some (.int a0), some (.int a1), some (.int a2), none, none], []) _ _ _
        obtain ⟨I771, hx, hf⟩ := Option.bind_eq_some_iff.mp hf
        refine zEv_go 4 (f1 := (49, [some (.ref 73), some (.int a0), some (.int a1), some (.int a2), some (.int a0), some (.int 0)], [])) (h1 := zHp I761) (fun n => rfl) ?_
        refine zEv_weak (L := [some (.ref 73), none, some (.int a1), some (.int a2), some (.int a0), some (.int 0)]) (by exact ⟨rfl, ⟨rfl, ⟨rfl, ⟨rfl, ⟨rfl, ⟨rfl, trivial⟩⟩⟩⟩⟩⟩) (s_Mo_season_L49 (d + 1) (by omega) n hx ?_)
        obtain ⟨x782, hm_m772, hf⟩ := Option.bind_eq_some_iff.mp hf
        have hJ_m772 : zEv none (d + 1) 185 (129, [some (.ref 73), none, none, none, none, none], [.int x782, .ref 73]) (zHp I771) (some (.int r)) (zHp I') := by
          obtain ⟨⟨x783, I784⟩, hx, hf⟩ := Option.bind_eq_some_iff.mp hf
          dsimp only at hf
          refine zEv_call 1 (N := 148) (vs := [.ref 73, .int x782]) (v1 := some (.int x783)) (h1 := zHp I784) (L := [some (.ref 73), none, none, none, none, none]) (rest := []) (pc := 132) (fun n => rfl) (s_Mo_back hx d (by omega)) rfl rfl ?_
          show zEv _ _ _ (132, [some (.ref 73), none, none, none, none, none], [.int x783]) _ _ _
          cases hf
          exact zEv_ret 1 (fun n => rfl)
        clear hf
        refine zEv_if 3 (c := a2 = 0) (f1 := (106, [some (.ref 73), none, none, some (.int a2), none, none], [.ref 73])) (f2 := (113, [some (.ref 73), none, none, some (.int a2), none, none], [.ref 73])) (h1 := zHp I771) (fun n => rfl) (fun hc => ?_) (fun hc => ?_)
        · rw [if_pos hc] at hm_m772
          obtain ⟨x777, hx, hm_m772⟩ := Option.bind_eq_some_iff.mp hm_m772
          refine zEv_call 2 (N := 184) (vs := [.ref 73]) (v1 := some (.int x777)) (h1 := zHp I771) (L := [some (.ref 73), none, none, some (.int a2), none, none]) (rest := [.ref 73]) (pc := 110) (fun n => rfl) (s_Mo_manyLost hx d (by omega)) rfl rfl ?_
          show zEv _ _ _ (110, [some (.ref 73), none, none, some (.int a2), none, none], [.int x777, .ref 73]) _ _ _
          obtain rfl := Option.some.inj hm_m772
          refine zEv_go 1 (f1 := (129, [some (.ref 73), none, none, some (.int a2), none, none], [.int x777, .ref 73])) (h1 := zHp I771) (fun n => rfl) ?_
          exact zEv_weak (L := [some (.ref 73), none, none, none, none, none]) (by exact ⟨rfl, ⟨rfl, ⟨rfl, ⟨rfl, ⟨rfl, ⟨rfl, trivial⟩⟩⟩⟩⟩⟩) hJ_m772
        · rw [if_neg hc] at hm_m772
          refine zEv_if 3 (c := a2 = 1) (f1 := (118, [some (.ref 73), none, none, some (.int a2), none, none], [.ref 73])) (f2 := (125, [some (.ref 73), none, none, some (.int a2), none, none], [.ref 73])) (h1 := zHp I771) (fun n => rfl) (fun hc => ?_) (fun hc => ?_)
          · rw [if_pos hc] at hm_m772
            obtain ⟨x781, hx, hm_m772⟩ := Option.bind_eq_some_iff.mp hm_m772
            refine zEv_call 2 (N := 183) (vs := [.ref 73]) (v1 := some (.int x781)) (h1 := zHp I771) (L := [some (.ref 73), none, none, some (.int a2), none, none]) (rest := [.ref 73]) (pc := 122) (fun n => rfl) (s_Mo_manyLie hx d (by omega)) rfl rfl ?_
            show zEv _ _ _ (122, [some (.ref 73), none, none, some (.int a2), none, none], [.int x781, .ref 73]) _ _ _
            obtain rfl := Option.some.inj hm_m772
            refine zEv_go 1 (f1 := (129, [some (.ref 73), none, none, some (.int a2), none, none], [.int x781, .ref 73])) (h1 := zHp I771) (fun n => rfl) ?_
            exact zEv_weak (L := [some (.ref 73), none, none, none, none, none]) (by exact ⟨rfl, ⟨rfl, ⟨rfl, ⟨rfl, ⟨rfl, ⟨rfl, trivial⟩⟩⟩⟩⟩⟩) hJ_m772
          · rw [if_neg hc] at hm_m772
            obtain rfl := Option.some.inj hm_m772
            refine zEv_go 2 (f1 := (129, [some (.ref 73), none, none, some (.int a2), none, none], [.int (I771 73 6), .ref 73])) (h1 := zHp I771) (fun n => rfl) ?_
            exact zEv_weak (L := [some (.ref 73), none, none, none, none, none]) (by exact ⟨rfl, ⟨rfl, ⟨rfl, ⟨rfl, ⟨rfl, ⟨rfl, trivial⟩⟩⟩⟩⟩⟩) hJ_m772
def Mo_pass  (a0 : Int32) (I : zI) : Option (Int32 × zI) :=
  (
    if (I 73 31) = 0 then
      if zIn (I 73 30) 200 then
        some (I 94 (Int32.toNatClampNeg (I 73 30)))
      else none
    else
      some a0 : Option (Int32)).bind fun x787 =>
  if zIn (I 73 30) 200 then
    some (x787, (zUp (zUp I 94 (Int32.toNatClampNeg (I 73 30)) x787) 73 30 (((zUp I 94 (Int32.toNatClampNeg (I 73 30)) x787) 73 30) + 1)))
  else none
theorem s_Mo_pass  {a0 : Int32} {I : zI} {r : Int32} {I' : zI} (hf : Mo_pass a0 I = some (r, I')) (d : Nat) (hd : 0 ≤ d) : zCall d 186 [.ref 73, .int a0] (zHp I) (some (.int r)) (zHp I') := by
  rw [Mo_pass] at hf
  show zEv _ _ _ (0, [some (.ref 73), some (.int a0), none], []) _ _ _
  obtain ⟨x787, hm_m786, hf⟩ := Option.bind_eq_some_iff.mp hf
  have hJ_m786 : zEv none (d) 186 (20, [some (.ref 73), none, none], [.int x787]) (zHp I) (some (.int r)) (zHp I') := by
    obtain ⟨hc, hf⟩ := zGd_inv hf
    refine zEv_gd 7 (c := zIn (I 73 30) 200) (f1 := (31, [some (.ref 73), none, some (.int x787)], [])) (h1 := zHp (zUp I 94 (Int32.toNatClampNeg (I 73 30)) x787)) (fun n => rfl) hc ?_
    cases hf
    exact zEv_ret 8 (fun n => rfl)
  clear hf
  refine zEv_if 3 (c := (I 73 31) = 0) (f1 := (11, [some (.ref 73), some (.int a0), none], [])) (f2 := (7, [some (.ref 73), some (.int a0), none], [])) (h1 := zHp I) (fun n => rfl) (fun hc => ?_) (fun hc => ?_)
  · rw [if_pos hc] at hm_m786
    obtain ⟨hc, hm_m786⟩ := zGd_inv hm_m786
    refine zEv_gd 5 (c := zIn (I 73 30) 200) (f1 := (20, [some (.ref 73), some (.int a0), none], [.int (I 94 (Int32.toNatClampNeg (I 73 30)))])) (h1 := zHp I) (fun n => rfl) hc ?_
    obtain rfl := Option.some.inj hm_m786
    exact zEv_weak (L := [some (.ref 73), none, none]) (by exact ⟨rfl, ⟨rfl, ⟨rfl, trivial⟩⟩⟩) hJ_m786
  · rw [if_neg hc] at hm_m786
    obtain rfl := Option.some.inj hm_m786
    refine zEv_go 2 (f1 := (20, [some (.ref 73), some (.int a0), none], [.int a0])) (h1 := zHp I) (fun n => rfl) ?_
    exact zEv_weak (L := [some (.ref 73), none, none]) (by exact ⟨rfl, ⟨rfl, ⟨rfl, trivial⟩⟩⟩) hJ_m786
def Mo_passRow_74_L2 : Nat → Int32 → Int32 → zI → Option (zI)
  | 0, _, _, _ => none
  | n + 1, v2, v3, I =>
    if v2 ≤ v3 then
      some I
    else
      if zIn v3 10 then
        (Mo_pass (I 74 (Int32.toNatClampNeg v3)) I).bind fun (x794, I795) =>
        if zIn v3 10 then
          Mo_passRow_74_L2 n v2 (v3 + 1) (zUp I795 74 (Int32.toNatClampNeg v3) x794)
        else none
      else none
theorem s_Mo_passRow_74_L2 (d : Nat) (hd : 1 ≤ d) : ∀ (n : Nat) {v2 : Int32} {v3 : Int32} {I : zI}  {I' : zI} {v : Option Value} {h' : zH}, Mo_passRow_74_L2 n v2 v3 I = some I' → zEv none d 187 (23, [some (.ref 73), some (.ref 74), none, none], []) (zHp I') v h' → zEv none d 187 (2, [some (.ref 73), some (.ref 74), some (.int v2), some (.int v3)], []) (zHp I) v h' := by
  obtain ⟨d, rfl⟩ : ∃ e, d = e + 1 := ⟨d - 1, by omega⟩
  intro n
  induction n with
  | zero => intros; rename_i hf _; cases hf
  | succ n ih =>
    intro v2 v3 I I' v h' hf kk
    rw [Mo_passRow_74_L2] at hf
    refine zEv_if 3 (c := v2 ≤ v3) (f1 := (23, [some (.ref 73), some (.ref 74), some (.int v2), some (.int v3)], [])) (f2 := (7, [some (.ref 73), some (.ref 74), some (.int v2), some (.int v3)], [])) (h1 := zHp I) (fun n => rfl) (fun hc => ?_) (fun hc => ?_)
    · rw [if_pos hc] at hf
      obtain rfl := Option.some.inj hf
      exact zEv_weak (L := [some (.ref 73), some (.ref 74), none, none]) (by exact ⟨rfl, ⟨rfl, ⟨rfl, ⟨rfl, trivial⟩⟩⟩⟩) kk
    · rw [if_neg hc] at hf
      obtain ⟨hc, hf⟩ := zGd_inv hf
      refine zEv_gd 6 (c := zIn v3 10) (f1 := (13, [some (.ref 73), some (.ref 74), some (.int v2), some (.int v3)], [.int (I 74 (Int32.toNatClampNeg v3)), .ref 73, .int v3, .ref 74])) (h1 := zHp I) (fun n => rfl) hc ?_
      obtain ⟨⟨x794, I795⟩, hx, hf⟩ := Option.bind_eq_some_iff.mp hf
      dsimp only at hf
      refine zEv_call 1 (N := 186) (vs := [.ref 73, .int (I 74 (Int32.toNatClampNeg v3))]) (v1 := some (.int x794)) (h1 := zHp I795) (L := [some (.ref 73), some (.ref 74), some (.int v2), some (.int v3)]) (rest := [.int v3, .ref 74]) (pc := 16) (fun n => rfl) (s_Mo_pass hx d (by omega)) rfl rfl ?_
      show zEv _ _ _ (16, [some (.ref 73), some (.ref 74), some (.int v2), some (.int v3)], [.int x794, .int v3, .ref 74]) _ _ _
      obtain ⟨hc, hf⟩ := zGd_inv hf
      refine zEv_gd 1 (c := zIn v3 10) (f1 := (17, [some (.ref 73), some (.ref 74), some (.int v2), some (.int v3)], [])) (h1 := zHp (zUp I795 74 (Int32.toNatClampNeg v3) x794)) (fun n => rfl) hc ?_
      refine zEv_go 2 (f1 := (2, [some (.ref 73), some (.ref 74), some (.int v2), some (.int (v3 + 1))], [])) (h1 := zHp (zUp I795 74 (Int32.toNatClampNeg v3) x794)) (fun n => rfl) ?_
      refine zEv_weak (L := [some (.ref 73), some (.ref 74), some (.int v2), some (.int (v3 + 1))]) (by exact ⟨rfl, ⟨rfl, ⟨rfl, ⟨rfl, trivial⟩⟩⟩⟩) ?_
      exact ih hf kk
def Mo_passRow_74 (n : Nat) (a0 : Int32) (I : zI) : Option (zI) :=
  (Mo_passRow_74_L2 n a0 0 I).bind fun I796 =>
  some I796
theorem s_Mo_passRow_74 {n : Nat} {a0 : Int32} {I : zI} {I' : zI} (hf : Mo_passRow_74 n a0 I = some I') (d : Nat) (hd : 1 ≤ d) : zCall d 187 [.ref 73, .ref 74, .int a0] (zHp I) (none) (zHp I') := by
  obtain ⟨d, rfl⟩ : ∃ e, d = e + 1 := ⟨d - 1, by omega⟩
  rw [Mo_passRow_74] at hf
  show zEv _ _ _ (0, [some (.ref 73), some (.ref 74), some (.int a0), none], []) _ _ _
  obtain ⟨I796, hx, hf⟩ := Option.bind_eq_some_iff.mp hf
  refine zEv_go 2 (f1 := (2, [some (.ref 73), some (.ref 74), some (.int a0), some (.int 0)], [])) (h1 := zHp I) (fun n => rfl) ?_
  refine zEv_weak (L := [some (.ref 73), some (.ref 74), some (.int a0), some (.int 0)]) (by exact ⟨rfl, ⟨rfl, ⟨rfl, ⟨rfl, trivial⟩⟩⟩⟩) (s_Mo_passRow_74_L2 (d + 1) (by omega) n hx ?_)
  cases hf
  exact zEv_ret 1 (fun n => rfl)
def Mo_passRow_75_L2 : Nat → Int32 → Int32 → zI → Option (zI)
  | 0, _, _, _ => none
  | n + 1, v2, v3, I =>
    if v2 ≤ v3 then
      some I
    else
      if zIn v3 8 then
        (Mo_pass (I 75 (Int32.toNatClampNeg v3)) I).bind fun (x798, I799) =>
        if zIn v3 8 then
          Mo_passRow_75_L2 n v2 (v3 + 1) (zUp I799 75 (Int32.toNatClampNeg v3) x798)
        else none
      else none
theorem s_Mo_passRow_75_L2 (d : Nat) (hd : 1 ≤ d) : ∀ (n : Nat) {v2 : Int32} {v3 : Int32} {I : zI}  {I' : zI} {v : Option Value} {h' : zH}, Mo_passRow_75_L2 n v2 v3 I = some I' → zEv none d 187 (23, [some (.ref 73), some (.ref 75), none, none], []) (zHp I') v h' → zEv none d 187 (2, [some (.ref 73), some (.ref 75), some (.int v2), some (.int v3)], []) (zHp I) v h' := by
  obtain ⟨d, rfl⟩ : ∃ e, d = e + 1 := ⟨d - 1, by omega⟩
  intro n
  induction n with
  | zero => intros; rename_i hf _; cases hf
  | succ n ih =>
    intro v2 v3 I I' v h' hf kk
    rw [Mo_passRow_75_L2] at hf
    refine zEv_if 3 (c := v2 ≤ v3) (f1 := (23, [some (.ref 73), some (.ref 75), some (.int v2), some (.int v3)], [])) (f2 := (7, [some (.ref 73), some (.ref 75), some (.int v2), some (.int v3)], [])) (h1 := zHp I) (fun n => rfl) (fun hc => ?_) (fun hc => ?_)
    · rw [if_pos hc] at hf
      obtain rfl := Option.some.inj hf
      exact zEv_weak (L := [some (.ref 73), some (.ref 75), none, none]) (by exact ⟨rfl, ⟨rfl, ⟨rfl, ⟨rfl, trivial⟩⟩⟩⟩) kk
    · rw [if_neg hc] at hf
      obtain ⟨hc, hf⟩ := zGd_inv hf
      refine zEv_gd 6 (c := zIn v3 8) (f1 := (13, [some (.ref 73), some (.ref 75), some (.int v2), some (.int v3)], [.int (I 75 (Int32.toNatClampNeg v3)), .ref 73, .int v3, .ref 75])) (h1 := zHp I) (fun n => rfl) hc ?_
      obtain ⟨⟨x798, I799⟩, hx, hf⟩ := Option.bind_eq_some_iff.mp hf
      dsimp only at hf
      refine zEv_call 1 (N := 186) (vs := [.ref 73, .int (I 75 (Int32.toNatClampNeg v3))]) (v1 := some (.int x798)) (h1 := zHp I799) (L := [some (.ref 73), some (.ref 75), some (.int v2), some (.int v3)]) (rest := [.int v3, .ref 75]) (pc := 16) (fun n => rfl) (s_Mo_pass hx d (by omega)) rfl rfl ?_
      show zEv _ _ _ (16, [some (.ref 73), some (.ref 75), some (.int v2), some (.int v3)], [.int x798, .int v3, .ref 75]) _ _ _
      obtain ⟨hc, hf⟩ := zGd_inv hf
      refine zEv_gd 1 (c := zIn v3 8) (f1 := (17, [some (.ref 73), some (.ref 75), some (.int v2), some (.int v3)], [])) (h1 := zHp (zUp I799 75 (Int32.toNatClampNeg v3) x798)) (fun n => rfl) hc ?_
      refine zEv_go 2 (f1 := (2, [some (.ref 73), some (.ref 75), some (.int v2), some (.int (v3 + 1))], [])) (h1 := zHp (zUp I799 75 (Int32.toNatClampNeg v3) x798)) (fun n => rfl) ?_
      refine zEv_weak (L := [some (.ref 73), some (.ref 75), some (.int v2), some (.int (v3 + 1))]) (by exact ⟨rfl, ⟨rfl, ⟨rfl, ⟨rfl, trivial⟩⟩⟩⟩) ?_
      exact ih hf kk
def Mo_passRow_75 (n : Nat) (a0 : Int32) (I : zI) : Option (zI) :=
  (Mo_passRow_75_L2 n a0 0 I).bind fun I800 =>
  some I800
theorem s_Mo_passRow_75 {n : Nat} {a0 : Int32} {I : zI} {I' : zI} (hf : Mo_passRow_75 n a0 I = some I') (d : Nat) (hd : 1 ≤ d) : zCall d 187 [.ref 73, .ref 75, .int a0] (zHp I) (none) (zHp I') := by
  obtain ⟨d, rfl⟩ : ∃ e, d = e + 1 := ⟨d - 1, by omega⟩
  rw [Mo_passRow_75] at hf
  show zEv _ _ _ (0, [some (.ref 73), some (.ref 75), some (.int a0), none], []) _ _ _
  obtain ⟨I800, hx, hf⟩ := Option.bind_eq_some_iff.mp hf
  refine zEv_go 2 (f1 := (2, [some (.ref 73), some (.ref 75), some (.int a0), some (.int 0)], [])) (h1 := zHp I) (fun n => rfl) ?_
  refine zEv_weak (L := [some (.ref 73), some (.ref 75), some (.int a0), some (.int 0)]) (by exact ⟨rfl, ⟨rfl, ⟨rfl, ⟨rfl, trivial⟩⟩⟩⟩) (s_Mo_passRow_75_L2 (d + 1) (by omega) n hx ?_)
  cases hf
  exact zEv_ret 1 (fun n => rfl)
def Mo_passRow_76_L2 : Nat → Int32 → Int32 → zI → Option (zI)
  | 0, _, _, _ => none
  | n + 1, v2, v3, I =>
    if v2 ≤ v3 then
      some I
    else
      if zIn v3 8 then
        (Mo_pass (I 76 (Int32.toNatClampNeg v3)) I).bind fun (x802, I803) =>
        if zIn v3 8 then
          Mo_passRow_76_L2 n v2 (v3 + 1) (zUp I803 76 (Int32.toNatClampNeg v3) x802)
        else none
      else none
theorem s_Mo_passRow_76_L2 (d : Nat) (hd : 1 ≤ d) : ∀ (n : Nat) {v2 : Int32} {v3 : Int32} {I : zI}  {I' : zI} {v : Option Value} {h' : zH}, Mo_passRow_76_L2 n v2 v3 I = some I' → zEv none d 187 (23, [some (.ref 73), some (.ref 76), none, none], []) (zHp I') v h' → zEv none d 187 (2, [some (.ref 73), some (.ref 76), some (.int v2), some (.int v3)], []) (zHp I) v h' := by
  obtain ⟨d, rfl⟩ : ∃ e, d = e + 1 := ⟨d - 1, by omega⟩
  intro n
  induction n with
  | zero => intros; rename_i hf _; cases hf
  | succ n ih =>
    intro v2 v3 I I' v h' hf kk
    rw [Mo_passRow_76_L2] at hf
    refine zEv_if 3 (c := v2 ≤ v3) (f1 := (23, [some (.ref 73), some (.ref 76), some (.int v2), some (.int v3)], [])) (f2 := (7, [some (.ref 73), some (.ref 76), some (.int v2), some (.int v3)], [])) (h1 := zHp I) (fun n => rfl) (fun hc => ?_) (fun hc => ?_)
    · rw [if_pos hc] at hf
      obtain rfl := Option.some.inj hf
      exact zEv_weak (L := [some (.ref 73), some (.ref 76), none, none]) (by exact ⟨rfl, ⟨rfl, ⟨rfl, ⟨rfl, trivial⟩⟩⟩⟩) kk
    · rw [if_neg hc] at hf
      obtain ⟨hc, hf⟩ := zGd_inv hf
      refine zEv_gd 6 (c := zIn v3 8) (f1 := (13, [some (.ref 73), some (.ref 76), some (.int v2), some (.int v3)], [.int (I 76 (Int32.toNatClampNeg v3)), .ref 73, .int v3, .ref 76])) (h1 := zHp I) (fun n => rfl) hc ?_
      obtain ⟨⟨x802, I803⟩, hx, hf⟩ := Option.bind_eq_some_iff.mp hf
      dsimp only at hf
      refine zEv_call 1 (N := 186) (vs := [.ref 73, .int (I 76 (Int32.toNatClampNeg v3))]) (v1 := some (.int x802)) (h1 := zHp I803) (L := [some (.ref 73), some (.ref 76), some (.int v2), some (.int v3)]) (rest := [.int v3, .ref 76]) (pc := 16) (fun n => rfl) (s_Mo_pass hx d (by omega)) rfl rfl ?_
      show zEv _ _ _ (16, [some (.ref 73), some (.ref 76), some (.int v2), some (.int v3)], [.int x802, .int v3, .ref 76]) _ _ _
      obtain ⟨hc, hf⟩ := zGd_inv hf
      refine zEv_gd 1 (c := zIn v3 8) (f1 := (17, [some (.ref 73), some (.ref 76), some (.int v2), some (.int v3)], [])) (h1 := zHp (zUp I803 76 (Int32.toNatClampNeg v3) x802)) (fun n => rfl) hc ?_
      refine zEv_go 2 (f1 := (2, [some (.ref 73), some (.ref 76), some (.int v2), some (.int (v3 + 1))], [])) (h1 := zHp (zUp I803 76 (Int32.toNatClampNeg v3) x802)) (fun n => rfl) ?_
      refine zEv_weak (L := [some (.ref 73), some (.ref 76), some (.int v2), some (.int (v3 + 1))]) (by exact ⟨rfl, ⟨rfl, ⟨rfl, ⟨rfl, trivial⟩⟩⟩⟩) ?_
      exact ih hf kk
def Mo_passRow_76 (n : Nat) (a0 : Int32) (I : zI) : Option (zI) :=
  (Mo_passRow_76_L2 n a0 0 I).bind fun I804 =>
  some I804
theorem s_Mo_passRow_76 {n : Nat} {a0 : Int32} {I : zI} {I' : zI} (hf : Mo_passRow_76 n a0 I = some I') (d : Nat) (hd : 1 ≤ d) : zCall d 187 [.ref 73, .ref 76, .int a0] (zHp I) (none) (zHp I') := by
  obtain ⟨d, rfl⟩ : ∃ e, d = e + 1 := ⟨d - 1, by omega⟩
  rw [Mo_passRow_76] at hf
  show zEv _ _ _ (0, [some (.ref 73), some (.ref 76), some (.int a0), none], []) _ _ _
  obtain ⟨I804, hx, hf⟩ := Option.bind_eq_some_iff.mp hf
  refine zEv_go 2 (f1 := (2, [some (.ref 73), some (.ref 76), some (.int a0), some (.int 0)], [])) (h1 := zHp I) (fun n => rfl) ?_
  refine zEv_weak (L := [some (.ref 73), some (.ref 76), some (.int a0), some (.int 0)]) (by exact ⟨rfl, ⟨rfl, ⟨rfl, ⟨rfl, trivial⟩⟩⟩⟩) (s_Mo_passRow_76_L2 (d + 1) (by omega) n hx ?_)
  cases hf
  exact zEv_ret 1 (fun n => rfl)
def Mo_passRow_77_L2 : Nat → Int32 → Int32 → zI → Option (zI)
  | 0, _, _, _ => none
  | n + 1, v2, v3, I =>
    if v2 ≤ v3 then
      some I
    else
      if zIn v3 10 then
        (Mo_pass (I 77 (Int32.toNatClampNeg v3)) I).bind fun (x806, I807) =>
        if zIn v3 10 then
          Mo_passRow_77_L2 n v2 (v3 + 1) (zUp I807 77 (Int32.toNatClampNeg v3) x806)
        else none
      else none
theorem s_Mo_passRow_77_L2 (d : Nat) (hd : 1 ≤ d) : ∀ (n : Nat) {v2 : Int32} {v3 : Int32} {I : zI}  {I' : zI} {v : Option Value} {h' : zH}, Mo_passRow_77_L2 n v2 v3 I = some I' → zEv none d 187 (23, [some (.ref 73), some (.ref 77), none, none], []) (zHp I') v h' → zEv none d 187 (2, [some (.ref 73), some (.ref 77), some (.int v2), some (.int v3)], []) (zHp I) v h' := by
  obtain ⟨d, rfl⟩ : ∃ e, d = e + 1 := ⟨d - 1, by omega⟩
  intro n
  induction n with
  | zero => intros; rename_i hf _; cases hf
  | succ n ih =>
    intro v2 v3 I I' v h' hf kk
    rw [Mo_passRow_77_L2] at hf
    refine zEv_if 3 (c := v2 ≤ v3) (f1 := (23, [some (.ref 73), some (.ref 77), some (.int v2), some (.int v3)], [])) (f2 := (7, [some (.ref 73), some (.ref 77), some (.int v2), some (.int v3)], [])) (h1 := zHp I) (fun n => rfl) (fun hc => ?_) (fun hc => ?_)
    · rw [if_pos hc] at hf
      obtain rfl := Option.some.inj hf
      exact zEv_weak (L := [some (.ref 73), some (.ref 77), none, none]) (by exact ⟨rfl, ⟨rfl, ⟨rfl, ⟨rfl, trivial⟩⟩⟩⟩) kk
    · rw [if_neg hc] at hf
      obtain ⟨hc, hf⟩ := zGd_inv hf
      refine zEv_gd 6 (c := zIn v3 10) (f1 := (13, [some (.ref 73), some (.ref 77), some (.int v2), some (.int v3)], [.int (I 77 (Int32.toNatClampNeg v3)), .ref 73, .int v3, .ref 77])) (h1 := zHp I) (fun n => rfl) hc ?_
      obtain ⟨⟨x806, I807⟩, hx, hf⟩ := Option.bind_eq_some_iff.mp hf
      dsimp only at hf
      refine zEv_call 1 (N := 186) (vs := [.ref 73, .int (I 77 (Int32.toNatClampNeg v3))]) (v1 := some (.int x806)) (h1 := zHp I807) (L := [some (.ref 73), some (.ref 77), some (.int v2), some (.int v3)]) (rest := [.int v3, .ref 77]) (pc := 16) (fun n => rfl) (s_Mo_pass hx d (by omega)) rfl rfl ?_
      show zEv _ _ _ (16, [some (.ref 73), some (.ref 77), some (.int v2), some (.int v3)], [.int x806, .int v3, .ref 77]) _ _ _
      obtain ⟨hc, hf⟩ := zGd_inv hf
      refine zEv_gd 1 (c := zIn v3 10) (f1 := (17, [some (.ref 73), some (.ref 77), some (.int v2), some (.int v3)], [])) (h1 := zHp (zUp I807 77 (Int32.toNatClampNeg v3) x806)) (fun n => rfl) hc ?_
      refine zEv_go 2 (f1 := (2, [some (.ref 73), some (.ref 77), some (.int v2), some (.int (v3 + 1))], [])) (h1 := zHp (zUp I807 77 (Int32.toNatClampNeg v3) x806)) (fun n => rfl) ?_
      refine zEv_weak (L := [some (.ref 73), some (.ref 77), some (.int v2), some (.int (v3 + 1))]) (by exact ⟨rfl, ⟨rfl, ⟨rfl, ⟨rfl, trivial⟩⟩⟩⟩) ?_
      exact ih hf kk
def Mo_passRow_77 (n : Nat) (a0 : Int32) (I : zI) : Option (zI) :=
  (Mo_passRow_77_L2 n a0 0 I).bind fun I808 =>
  some I808
theorem s_Mo_passRow_77 {n : Nat} {a0 : Int32} {I : zI} {I' : zI} (hf : Mo_passRow_77 n a0 I = some I') (d : Nat) (hd : 1 ≤ d) : zCall d 187 [.ref 73, .ref 77, .int a0] (zHp I) (none) (zHp I') := by
  obtain ⟨d, rfl⟩ : ∃ e, d = e + 1 := ⟨d - 1, by omega⟩
  rw [Mo_passRow_77] at hf
  show zEv _ _ _ (0, [some (.ref 73), some (.ref 77), some (.int a0), none], []) _ _ _
  obtain ⟨I808, hx, hf⟩ := Option.bind_eq_some_iff.mp hf
  refine zEv_go 2 (f1 := (2, [some (.ref 73), some (.ref 77), some (.int a0), some (.int 0)], [])) (h1 := zHp I) (fun n => rfl) ?_
  refine zEv_weak (L := [some (.ref 73), some (.ref 77), some (.int a0), some (.int 0)]) (by exact ⟨rfl, ⟨rfl, ⟨rfl, ⟨rfl, trivial⟩⟩⟩⟩) (s_Mo_passRow_77_L2 (d + 1) (by omega) n hx ?_)
  cases hf
  exact zEv_ret 1 (fun n => rfl)
def Mo_passRow_78_L2 : Nat → Int32 → Int32 → zI → Option (zI)
  | 0, _, _, _ => none
  | n + 1, v2, v3, I =>
    if v2 ≤ v3 then
      some I
    else
      if zIn v3 10 then
        (Mo_pass (I 78 (Int32.toNatClampNeg v3)) I).bind fun (x810, I811) =>
        if zIn v3 10 then
          Mo_passRow_78_L2 n v2 (v3 + 1) (zUp I811 78 (Int32.toNatClampNeg v3) x810)
        else none
      else none
theorem s_Mo_passRow_78_L2 (d : Nat) (hd : 1 ≤ d) : ∀ (n : Nat) {v2 : Int32} {v3 : Int32} {I : zI}  {I' : zI} {v : Option Value} {h' : zH}, Mo_passRow_78_L2 n v2 v3 I = some I' → zEv none d 187 (23, [some (.ref 73), some (.ref 78), none, none], []) (zHp I') v h' → zEv none d 187 (2, [some (.ref 73), some (.ref 78), some (.int v2), some (.int v3)], []) (zHp I) v h' := by
  obtain ⟨d, rfl⟩ : ∃ e, d = e + 1 := ⟨d - 1, by omega⟩
  intro n
  induction n with
  | zero => intros; rename_i hf _; cases hf
  | succ n ih =>
    intro v2 v3 I I' v h' hf kk
    rw [Mo_passRow_78_L2] at hf
    refine zEv_if 3 (c := v2 ≤ v3) (f1 := (23, [some (.ref 73), some (.ref 78), some (.int v2), some (.int v3)], [])) (f2 := (7, [some (.ref 73), some (.ref 78), some (.int v2), some (.int v3)], [])) (h1 := zHp I) (fun n => rfl) (fun hc => ?_) (fun hc => ?_)
    · rw [if_pos hc] at hf
      obtain rfl := Option.some.inj hf
      exact zEv_weak (L := [some (.ref 73), some (.ref 78), none, none]) (by exact ⟨rfl, ⟨rfl, ⟨rfl, ⟨rfl, trivial⟩⟩⟩⟩) kk
    · rw [if_neg hc] at hf
      obtain ⟨hc, hf⟩ := zGd_inv hf
      refine zEv_gd 6 (c := zIn v3 10) (f1 := (13, [some (.ref 73), some (.ref 78), some (.int v2), some (.int v3)], [.int (I 78 (Int32.toNatClampNeg v3)), .ref 73, .int v3, .ref 78])) (h1 := zHp I) (fun n => rfl) hc ?_
      obtain ⟨⟨x810, I811⟩, hx, hf⟩ := Option.bind_eq_some_iff.mp hf
      dsimp only at hf
      refine zEv_call 1 (N := 186) (vs := [.ref 73, .int (I 78 (Int32.toNatClampNeg v3))]) (v1 := some (.int x810)) (h1 := zHp I811) (L := [some (.ref 73), some (.ref 78), some (.int v2), some (.int v3)]) (rest := [.int v3, .ref 78]) (pc := 16) (fun n => rfl) (s_Mo_pass hx d (by omega)) rfl rfl ?_
      show zEv _ _ _ (16, [some (.ref 73), some (.ref 78), some (.int v2), some (.int v3)], [.int x810, .int v3, .ref 78]) _ _ _
      obtain ⟨hc, hf⟩ := zGd_inv hf
      refine zEv_gd 1 (c := zIn v3 10) (f1 := (17, [some (.ref 73), some (.ref 78), some (.int v2), some (.int v3)], [])) (h1 := zHp (zUp I811 78 (Int32.toNatClampNeg v3) x810)) (fun n => rfl) hc ?_
      refine zEv_go 2 (f1 := (2, [some (.ref 73), some (.ref 78), some (.int v2), some (.int (v3 + 1))], [])) (h1 := zHp (zUp I811 78 (Int32.toNatClampNeg v3) x810)) (fun n => rfl) ?_
      refine zEv_weak (L := [some (.ref 73), some (.ref 78), some (.int v2), some (.int (v3 + 1))]) (by exact ⟨rfl, ⟨rfl, ⟨rfl, ⟨rfl, trivial⟩⟩⟩⟩) ?_
      exact ih hf kk
def Mo_passRow_78 (n : Nat) (a0 : Int32) (I : zI) : Option (zI) :=
  (Mo_passRow_78_L2 n a0 0 I).bind fun I812 =>
  some I812
theorem s_Mo_passRow_78 {n : Nat} {a0 : Int32} {I : zI} {I' : zI} (hf : Mo_passRow_78 n a0 I = some I') (d : Nat) (hd : 1 ≤ d) : zCall d 187 [.ref 73, .ref 78, .int a0] (zHp I) (none) (zHp I') := by
  obtain ⟨d, rfl⟩ : ∃ e, d = e + 1 := ⟨d - 1, by omega⟩
  rw [Mo_passRow_78] at hf
  show zEv _ _ _ (0, [some (.ref 73), some (.ref 78), some (.int a0), none], []) _ _ _
  obtain ⟨I812, hx, hf⟩ := Option.bind_eq_some_iff.mp hf
  refine zEv_go 2 (f1 := (2, [some (.ref 73), some (.ref 78), some (.int a0), some (.int 0)], [])) (h1 := zHp I) (fun n => rfl) ?_
  refine zEv_weak (L := [some (.ref 73), some (.ref 78), some (.int a0), some (.int 0)]) (by exact ⟨rfl, ⟨rfl, ⟨rfl, ⟨rfl, trivial⟩⟩⟩⟩) (s_Mo_passRow_78_L2 (d + 1) (by omega) n hx ?_)
  cases hf
  exact zEv_ret 1 (fun n => rfl)
def Mo_passRow_79_L2 : Nat → Int32 → Int32 → zI → Option (zI)
  | 0, _, _, _ => none
  | n + 1, v2, v3, I =>
    if v2 ≤ v3 then
      some I
    else
      if zIn v3 8 then
        (Mo_pass (I 79 (Int32.toNatClampNeg v3)) I).bind fun (x814, I815) =>
        if zIn v3 8 then
          Mo_passRow_79_L2 n v2 (v3 + 1) (zUp I815 79 (Int32.toNatClampNeg v3) x814)
        else none
      else none
theorem s_Mo_passRow_79_L2 (d : Nat) (hd : 1 ≤ d) : ∀ (n : Nat) {v2 : Int32} {v3 : Int32} {I : zI}  {I' : zI} {v : Option Value} {h' : zH}, Mo_passRow_79_L2 n v2 v3 I = some I' → zEv none d 187 (23, [some (.ref 73), some (.ref 79), none, none], []) (zHp I') v h' → zEv none d 187 (2, [some (.ref 73), some (.ref 79), some (.int v2), some (.int v3)], []) (zHp I) v h' := by
  obtain ⟨d, rfl⟩ : ∃ e, d = e + 1 := ⟨d - 1, by omega⟩
  intro n
  induction n with
  | zero => intros; rename_i hf _; cases hf
  | succ n ih =>
    intro v2 v3 I I' v h' hf kk
    rw [Mo_passRow_79_L2] at hf
    refine zEv_if 3 (c := v2 ≤ v3) (f1 := (23, [some (.ref 73), some (.ref 79), some (.int v2), some (.int v3)], [])) (f2 := (7, [some (.ref 73), some (.ref 79), some (.int v2), some (.int v3)], [])) (h1 := zHp I) (fun n => rfl) (fun hc => ?_) (fun hc => ?_)
    · rw [if_pos hc] at hf
      obtain rfl := Option.some.inj hf
      exact zEv_weak (L := [some (.ref 73), some (.ref 79), none, none]) (by exact ⟨rfl, ⟨rfl, ⟨rfl, ⟨rfl, trivial⟩⟩⟩⟩) kk
    · rw [if_neg hc] at hf
      obtain ⟨hc, hf⟩ := zGd_inv hf
      refine zEv_gd 6 (c := zIn v3 8) (f1 := (13, [some (.ref 73), some (.ref 79), some (.int v2), some (.int v3)], [.int (I 79 (Int32.toNatClampNeg v3)), .ref 73, .int v3, .ref 79])) (h1 := zHp I) (fun n => rfl) hc ?_
      obtain ⟨⟨x814, I815⟩, hx, hf⟩ := Option.bind_eq_some_iff.mp hf
      dsimp only at hf
      refine zEv_call 1 (N := 186) (vs := [.ref 73, .int (I 79 (Int32.toNatClampNeg v3))]) (v1 := some (.int x814)) (h1 := zHp I815) (L := [some (.ref 73), some (.ref 79), some (.int v2), some (.int v3)]) (rest := [.int v3, .ref 79]) (pc := 16) (fun n => rfl) (s_Mo_pass hx d (by omega)) rfl rfl ?_
      show zEv _ _ _ (16, [some (.ref 73), some (.ref 79), some (.int v2), some (.int v3)], [.int x814, .int v3, .ref 79]) _ _ _
      obtain ⟨hc, hf⟩ := zGd_inv hf
      refine zEv_gd 1 (c := zIn v3 8) (f1 := (17, [some (.ref 73), some (.ref 79), some (.int v2), some (.int v3)], [])) (h1 := zHp (zUp I815 79 (Int32.toNatClampNeg v3) x814)) (fun n => rfl) hc ?_
      refine zEv_go 2 (f1 := (2, [some (.ref 73), some (.ref 79), some (.int v2), some (.int (v3 + 1))], [])) (h1 := zHp (zUp I815 79 (Int32.toNatClampNeg v3) x814)) (fun n => rfl) ?_
      refine zEv_weak (L := [some (.ref 73), some (.ref 79), some (.int v2), some (.int (v3 + 1))]) (by exact ⟨rfl, ⟨rfl, ⟨rfl, ⟨rfl, trivial⟩⟩⟩⟩) ?_
      exact ih hf kk
def Mo_passRow_79 (n : Nat) (a0 : Int32) (I : zI) : Option (zI) :=
  (Mo_passRow_79_L2 n a0 0 I).bind fun I816 =>
  some I816
theorem s_Mo_passRow_79 {n : Nat} {a0 : Int32} {I : zI} {I' : zI} (hf : Mo_passRow_79 n a0 I = some I') (d : Nat) (hd : 1 ≤ d) : zCall d 187 [.ref 73, .ref 79, .int a0] (zHp I) (none) (zHp I') := by
  obtain ⟨d, rfl⟩ : ∃ e, d = e + 1 := ⟨d - 1, by omega⟩
  rw [Mo_passRow_79] at hf
  show zEv _ _ _ (0, [some (.ref 73), some (.ref 79), some (.int a0), none], []) _ _ _
  obtain ⟨I816, hx, hf⟩ := Option.bind_eq_some_iff.mp hf
  refine zEv_go 2 (f1 := (2, [some (.ref 73), some (.ref 79), some (.int a0), some (.int 0)], [])) (h1 := zHp I) (fun n => rfl) ?_
  refine zEv_weak (L := [some (.ref 73), some (.ref 79), some (.int a0), some (.int 0)]) (by exact ⟨rfl, ⟨rfl, ⟨rfl, ⟨rfl, trivial⟩⟩⟩⟩) (s_Mo_passRow_79_L2 (d + 1) (by omega) n hx ?_)
  cases hf
  exact zEv_ret 1 (fun n => rfl)
def Mo_passRow_80_L2 : Nat → Int32 → Int32 → zI → Option (zI)
  | 0, _, _, _ => none
  | n + 1, v2, v3, I =>
    if v2 ≤ v3 then
      some I
    else
      if zIn v3 8 then
        (Mo_pass (I 80 (Int32.toNatClampNeg v3)) I).bind fun (x818, I819) =>
        if zIn v3 8 then
          Mo_passRow_80_L2 n v2 (v3 + 1) (zUp I819 80 (Int32.toNatClampNeg v3) x818)
        else none
      else none
theorem s_Mo_passRow_80_L2 (d : Nat) (hd : 1 ≤ d) : ∀ (n : Nat) {v2 : Int32} {v3 : Int32} {I : zI}  {I' : zI} {v : Option Value} {h' : zH}, Mo_passRow_80_L2 n v2 v3 I = some I' → zEv none d 187 (23, [some (.ref 73), some (.ref 80), none, none], []) (zHp I') v h' → zEv none d 187 (2, [some (.ref 73), some (.ref 80), some (.int v2), some (.int v3)], []) (zHp I) v h' := by
  obtain ⟨d, rfl⟩ : ∃ e, d = e + 1 := ⟨d - 1, by omega⟩
  intro n
  induction n with
  | zero => intros; rename_i hf _; cases hf
  | succ n ih =>
    intro v2 v3 I I' v h' hf kk
    rw [Mo_passRow_80_L2] at hf
    refine zEv_if 3 (c := v2 ≤ v3) (f1 := (23, [some (.ref 73), some (.ref 80), some (.int v2), some (.int v3)], [])) (f2 := (7, [some (.ref 73), some (.ref 80), some (.int v2), some (.int v3)], [])) (h1 := zHp I) (fun n => rfl) (fun hc => ?_) (fun hc => ?_)
    · rw [if_pos hc] at hf
      obtain rfl := Option.some.inj hf
      exact zEv_weak (L := [some (.ref 73), some (.ref 80), none, none]) (by exact ⟨rfl, ⟨rfl, ⟨rfl, ⟨rfl, trivial⟩⟩⟩⟩) kk
    · rw [if_neg hc] at hf
      obtain ⟨hc, hf⟩ := zGd_inv hf
      refine zEv_gd 6 (c := zIn v3 8) (f1 := (13, [some (.ref 73), some (.ref 80), some (.int v2), some (.int v3)], [.int (I 80 (Int32.toNatClampNeg v3)), .ref 73, .int v3, .ref 80])) (h1 := zHp I) (fun n => rfl) hc ?_
      obtain ⟨⟨x818, I819⟩, hx, hf⟩ := Option.bind_eq_some_iff.mp hf
      dsimp only at hf
      refine zEv_call 1 (N := 186) (vs := [.ref 73, .int (I 80 (Int32.toNatClampNeg v3))]) (v1 := some (.int x818)) (h1 := zHp I819) (L := [some (.ref 73), some (.ref 80), some (.int v2), some (.int v3)]) (rest := [.int v3, .ref 80]) (pc := 16) (fun n => rfl) (s_Mo_pass hx d (by omega)) rfl rfl ?_
      show zEv _ _ _ (16, [some (.ref 73), some (.ref 80), some (.int v2), some (.int v3)], [.int x818, .int v3, .ref 80]) _ _ _
      obtain ⟨hc, hf⟩ := zGd_inv hf
      refine zEv_gd 1 (c := zIn v3 8) (f1 := (17, [some (.ref 73), some (.ref 80), some (.int v2), some (.int v3)], [])) (h1 := zHp (zUp I819 80 (Int32.toNatClampNeg v3) x818)) (fun n => rfl) hc ?_
      refine zEv_go 2 (f1 := (2, [some (.ref 73), some (.ref 80), some (.int v2), some (.int (v3 + 1))], [])) (h1 := zHp (zUp I819 80 (Int32.toNatClampNeg v3) x818)) (fun n => rfl) ?_
      refine zEv_weak (L := [some (.ref 73), some (.ref 80), some (.int v2), some (.int (v3 + 1))]) (by exact ⟨rfl, ⟨rfl, ⟨rfl, ⟨rfl, trivial⟩⟩⟩⟩) ?_
      exact ih hf kk
def Mo_passRow_80 (n : Nat) (a0 : Int32) (I : zI) : Option (zI) :=
  (Mo_passRow_80_L2 n a0 0 I).bind fun I820 =>
  some I820
theorem s_Mo_passRow_80 {n : Nat} {a0 : Int32} {I : zI} {I' : zI} (hf : Mo_passRow_80 n a0 I = some I') (d : Nat) (hd : 1 ≤ d) : zCall d 187 [.ref 73, .ref 80, .int a0] (zHp I) (none) (zHp I') := by
  obtain ⟨d, rfl⟩ : ∃ e, d = e + 1 := ⟨d - 1, by omega⟩
  rw [Mo_passRow_80] at hf
  show zEv _ _ _ (0, [some (.ref 73), some (.ref 80), some (.int a0), none], []) _ _ _
  obtain ⟨I820, hx, hf⟩ := Option.bind_eq_some_iff.mp hf
  refine zEv_go 2 (f1 := (2, [some (.ref 73), some (.ref 80), some (.int a0), some (.int 0)], [])) (h1 := zHp I) (fun n => rfl) ?_
  refine zEv_weak (L := [some (.ref 73), some (.ref 80), some (.int a0), some (.int 0)]) (by exact ⟨rfl, ⟨rfl, ⟨rfl, ⟨rfl, trivial⟩⟩⟩⟩) (s_Mo_passRow_80_L2 (d + 1) (by omega) n hx ?_)
  cases hf
  exact zEv_ret 1 (fun n => rfl)
def Mo_passRow_81_L2 : Nat → Int32 → Int32 → zI → Option (zI)
  | 0, _, _, _ => none
  | n + 1, v2, v3, I =>
    if v2 ≤ v3 then
      some I
    else
      if zIn v3 8 then
        (Mo_pass (I 81 (Int32.toNatClampNeg v3)) I).bind fun (x822, I823) =>
        if zIn v3 8 then
          Mo_passRow_81_L2 n v2 (v3 + 1) (zUp I823 81 (Int32.toNatClampNeg v3) x822)
        else none
      else none
theorem s_Mo_passRow_81_L2 (d : Nat) (hd : 1 ≤ d) : ∀ (n : Nat) {v2 : Int32} {v3 : Int32} {I : zI}  {I' : zI} {v : Option Value} {h' : zH}, Mo_passRow_81_L2 n v2 v3 I = some I' → zEv none d 187 (23, [some (.ref 73), some (.ref 81), none, none], []) (zHp I') v h' → zEv none d 187 (2, [some (.ref 73), some (.ref 81), some (.int v2), some (.int v3)], []) (zHp I) v h' := by
  obtain ⟨d, rfl⟩ : ∃ e, d = e + 1 := ⟨d - 1, by omega⟩
  intro n
  induction n with
  | zero => intros; rename_i hf _; cases hf
  | succ n ih =>
    intro v2 v3 I I' v h' hf kk
    rw [Mo_passRow_81_L2] at hf
    refine zEv_if 3 (c := v2 ≤ v3) (f1 := (23, [some (.ref 73), some (.ref 81), some (.int v2), some (.int v3)], [])) (f2 := (7, [some (.ref 73), some (.ref 81), some (.int v2), some (.int v3)], [])) (h1 := zHp I) (fun n => rfl) (fun hc => ?_) (fun hc => ?_)
    · rw [if_pos hc] at hf
      obtain rfl := Option.some.inj hf
      exact zEv_weak (L := [some (.ref 73), some (.ref 81), none, none]) (by exact ⟨rfl, ⟨rfl, ⟨rfl, ⟨rfl, trivial⟩⟩⟩⟩) kk
    · rw [if_neg hc] at hf
      obtain ⟨hc, hf⟩ := zGd_inv hf
      refine zEv_gd 6 (c := zIn v3 8) (f1 := (13, [some (.ref 73), some (.ref 81), some (.int v2), some (.int v3)], [.int (I 81 (Int32.toNatClampNeg v3)), .ref 73, .int v3, .ref 81])) (h1 := zHp I) (fun n => rfl) hc ?_
      obtain ⟨⟨x822, I823⟩, hx, hf⟩ := Option.bind_eq_some_iff.mp hf
      dsimp only at hf
      refine zEv_call 1 (N := 186) (vs := [.ref 73, .int (I 81 (Int32.toNatClampNeg v3))]) (v1 := some (.int x822)) (h1 := zHp I823) (L := [some (.ref 73), some (.ref 81), some (.int v2), some (.int v3)]) (rest := [.int v3, .ref 81]) (pc := 16) (fun n => rfl) (s_Mo_pass hx d (by omega)) rfl rfl ?_
      show zEv _ _ _ (16, [some (.ref 73), some (.ref 81), some (.int v2), some (.int v3)], [.int x822, .int v3, .ref 81]) _ _ _
      obtain ⟨hc, hf⟩ := zGd_inv hf
      refine zEv_gd 1 (c := zIn v3 8) (f1 := (17, [some (.ref 73), some (.ref 81), some (.int v2), some (.int v3)], [])) (h1 := zHp (zUp I823 81 (Int32.toNatClampNeg v3) x822)) (fun n => rfl) hc ?_
      refine zEv_go 2 (f1 := (2, [some (.ref 73), some (.ref 81), some (.int v2), some (.int (v3 + 1))], [])) (h1 := zHp (zUp I823 81 (Int32.toNatClampNeg v3) x822)) (fun n => rfl) ?_
      refine zEv_weak (L := [some (.ref 73), some (.ref 81), some (.int v2), some (.int (v3 + 1))]) (by exact ⟨rfl, ⟨rfl, ⟨rfl, ⟨rfl, trivial⟩⟩⟩⟩) ?_
      exact ih hf kk
def Mo_passRow_81 (n : Nat) (a0 : Int32) (I : zI) : Option (zI) :=
  (Mo_passRow_81_L2 n a0 0 I).bind fun I824 =>
  some I824
theorem s_Mo_passRow_81 {n : Nat} {a0 : Int32} {I : zI} {I' : zI} (hf : Mo_passRow_81 n a0 I = some I') (d : Nat) (hd : 1 ≤ d) : zCall d 187 [.ref 73, .ref 81, .int a0] (zHp I) (none) (zHp I') := by
  obtain ⟨d, rfl⟩ : ∃ e, d = e + 1 := ⟨d - 1, by omega⟩
  rw [Mo_passRow_81] at hf
  show zEv _ _ _ (0, [some (.ref 73), some (.ref 81), some (.int a0), none], []) _ _ _
  obtain ⟨I824, hx, hf⟩ := Option.bind_eq_some_iff.mp hf
  refine zEv_go 2 (f1 := (2, [some (.ref 73), some (.ref 81), some (.int a0), some (.int 0)], [])) (h1 := zHp I) (fun n => rfl) ?_
  refine zEv_weak (L := [some (.ref 73), some (.ref 81), some (.int a0), some (.int 0)]) (by exact ⟨rfl, ⟨rfl, ⟨rfl, ⟨rfl, trivial⟩⟩⟩⟩) (s_Mo_passRow_81_L2 (d + 1) (by omega) n hx ?_)
  cases hf
  exact zEv_ret 1 (fun n => rfl)
def Mo_passAll (n : Nat) (I : zI) : Option (zI) :=
  (Mo_pass (I 73 5) I).bind fun (x788, I789) =>
  (Mo_pass ((zUp I789 73 5 x788) 73 6) (zUp I789 73 5 x788)).bind fun (x790, I791) =>
  (Mo_pass ((zUp I791 73 6 x790) 73 10) (zUp I791 73 6 x790)).bind fun (x792, I793) =>
  (Mo_passRow_74 n 10 (zUp I793 73 10 x792)).bind fun I797 =>
  (Mo_passRow_75 n 8 I797).bind fun I801 =>
  (Mo_passRow_76 n 8 I801).bind fun I805 =>
  (Mo_passRow_77 n 10 I805).bind fun I809 =>
  (Mo_passRow_78 n 10 I809).bind fun I813 =>
  (Mo_passRow_79 n 8 I813).bind fun I817 =>
  (Mo_passRow_80 n 8 I817).bind fun I821 =>
  (Mo_passRow_81 n 8 I821).bind fun I825 =>
  some I825
theorem s_Mo_passAll {n : Nat} {I : zI} {I' : zI} (hf : Mo_passAll n I = some I') (d : Nat) (hd : 2 ≤ d) : zCall d 188 [.ref 73] (zHp I) (none) (zHp I') := by
  obtain ⟨d, rfl⟩ : ∃ e, d = e + 1 := ⟨d - 1, by omega⟩
  rw [Mo_passAll] at hf
  show zEv _ _ _ (0, [some (.ref 73)], []) _ _ _
  obtain ⟨⟨x788, I789⟩, hx, hf⟩ := Option.bind_eq_some_iff.mp hf
  dsimp only at hf
  refine zEv_call 5 (N := 186) (vs := [.ref 73, .int (I 73 5)]) (v1 := some (.int x788)) (h1 := zHp I789) (L := [some (.ref 73)]) (rest := [.ref 73]) (pc := 9) (fun n => rfl) (s_Mo_pass hx d (by omega)) rfl rfl ?_
  show zEv _ _ _ (9, [some (.ref 73)], [.int x788, .ref 73]) _ _ _
  obtain ⟨⟨x790, I791⟩, hx, hf⟩ := Option.bind_eq_some_iff.mp hf
  dsimp only at hf
  refine zEv_call 6 (N := 186) (vs := [.ref 73, .int ((zUp I789 73 5 x788) 73 6)]) (v1 := some (.int x790)) (h1 := zHp I791) (L := [some (.ref 73)]) (rest := [.ref 73]) (pc := 21) (fun n => rfl) (s_Mo_pass hx d (by omega)) rfl rfl ?_
  show zEv _ _ _ (21, [some (.ref 73)], [.int x790, .ref 73]) _ _ _
  obtain ⟨⟨x792, I793⟩, hx, hf⟩ := Option.bind_eq_some_iff.mp hf
  dsimp only at hf
  refine zEv_call 6 (N := 186) (vs := [.ref 73, .int ((zUp I791 73 6 x790) 73 10)]) (v1 := some (.int x792)) (h1 := zHp I793) (L := [some (.ref 73)]) (rest := [.ref 73]) (pc := 33) (fun n => rfl) (s_Mo_pass hx d (by omega)) rfl rfl ?_
  show zEv _ _ _ (33, [some (.ref 73)], [.int x792, .ref 73]) _ _ _
  obtain ⟨I797, hx, hf⟩ := Option.bind_eq_some_iff.mp hf
  refine zEv_call 6 (N := 187) (vs := [.ref 73, .ref 74, .int 10]) (v1 := none) (h1 := zHp I797) (L := [some (.ref 73)]) (rest := []) (pc := 46) (fun n => rfl) (s_Mo_passRow_74 hx d (by omega)) rfl rfl ?_
  show zEv _ _ _ (46, [some (.ref 73)], []) _ _ _
  obtain ⟨I801, hx, hf⟩ := Option.bind_eq_some_iff.mp hf
  refine zEv_call 5 (N := 187) (vs := [.ref 73, .ref 75, .int 8]) (v1 := none) (h1 := zHp I801) (L := [some (.ref 73)]) (rest := []) (pc := 56) (fun n => rfl) (s_Mo_passRow_75 hx d (by omega)) rfl rfl ?_
  show zEv _ _ _ (56, [some (.ref 73)], []) _ _ _
  obtain ⟨I805, hx, hf⟩ := Option.bind_eq_some_iff.mp hf
  refine zEv_call 5 (N := 187) (vs := [.ref 73, .ref 76, .int 8]) (v1 := none) (h1 := zHp I805) (L := [some (.ref 73)]) (rest := []) (pc := 66) (fun n => rfl) (s_Mo_passRow_76 hx d (by omega)) rfl rfl ?_
  show zEv _ _ _ (66, [some (.ref 73)], []) _ _ _
  obtain ⟨I809, hx, hf⟩ := Option.bind_eq_some_iff.mp hf
  refine zEv_call 5 (N := 187) (vs := [.ref 73, .ref 77, .int 10]) (v1 := none) (h1 := zHp I809) (L := [some (.ref 73)]) (rest := []) (pc := 76) (fun n => rfl) (s_Mo_passRow_77 hx d (by omega)) rfl rfl ?_
  show zEv _ _ _ (76, [some (.ref 73)], []) _ _ _
  obtain ⟨I813, hx, hf⟩ := Option.bind_eq_some_iff.mp hf
  refine zEv_call 5 (N := 187) (vs := [.ref 73, .ref 78, .int 10]) (v1 := none) (h1 := zHp I813) (L := [some (.ref 73)]) (rest := []) (pc := 86) (fun n => rfl) (s_Mo_passRow_78 hx d (by omega)) rfl rfl ?_
  show zEv _ _ _ (86, [some (.ref 73)], []) _ _ _
  obtain ⟨I817, hx, hf⟩ := Option.bind_eq_some_iff.mp hf
  refine zEv_call 5 (N := 187) (vs := [.ref 73, .ref 79, .int 8]) (v1 := none) (h1 := zHp I817) (L := [some (.ref 73)]) (rest := []) (pc := 96) (fun n => rfl) (s_Mo_passRow_79 hx d (by omega)) rfl rfl ?_
  show zEv _ _ _ (96, [some (.ref 73)], []) _ _ _
  obtain ⟨I821, hx, hf⟩ := Option.bind_eq_some_iff.mp hf
  refine zEv_call 5 (N := 187) (vs := [.ref 73, .ref 80, .int 8]) (v1 := none) (h1 := zHp I821) (L := [some (.ref 73)]) (rest := []) (pc := 106) (fun n => rfl) (s_Mo_passRow_80 hx d (by omega)) rfl rfl ?_
  show zEv _ _ _ (106, [some (.ref 73)], []) _ _ _
  obtain ⟨I825, hx, hf⟩ := Option.bind_eq_some_iff.mp hf
  refine zEv_call 5 (N := 187) (vs := [.ref 73, .ref 81, .int 8]) (v1 := none) (h1 := zHp I825) (L := [some (.ref 73)]) (rest := []) (pc := 116) (fun n => rfl) (s_Mo_passRow_81 hx d (by omega)) rfl rfl ?_
  show zEv _ _ _ (116, [some (.ref 73)], []) _ _ _
  cases hf
  exact zEv_ret 1 (fun n => rfl)
def Mo_image (n : Nat) (a0 : Int32) (I : zI) : Option (Int32 × zI) :=
  (Mo_in (Int32.toInt64 a0) 0 1 I).bind fun x785 =>
  if x785 = 0 then
    some ((-2), I)
  else
    (Mo_passAll n (zUp (zUp I 73 30 (100 * a0)) 73 31 1)).bind fun I826 =>
    if zIn a0 2 ∧ ((1 : Int32) = 0 ∨ (1 : Int32) = 1) then
      some (1, (zUp I826 95 (Int32.toNatClampNeg a0) 1))
    else none
theorem s_Mo_image {n : Nat} {a0 : Int32} {I : zI} {r : Int32} {I' : zI} (hf : Mo_image n a0 I = some (r, I')) (d : Nat) (hd : 3 ≤ d) : zCall d 189 [.ref 73, .int a0] (zHp I) (some (.int r)) (zHp I') := by
  obtain ⟨d, rfl⟩ : ∃ e, d = e + 1 := ⟨d - 1, by omega⟩
  rw [Mo_image] at hf
  show zEv _ _ _ (0, [some (.ref 73), some (.int a0)], []) _ _ _
  obtain ⟨x785, hx, hf⟩ := Option.bind_eq_some_iff.mp hf
  refine zEv_call 5 (N := 117) (vs := [.long (Int32.toInt64 a0), .long 0, .long 1]) (v1 := some (.int x785)) (h1 := zHp I) (L := [some (.ref 73), some (.int a0)]) (rest := []) (pc := 7) (fun n => rfl) (s_Mo_in hx d (by omega)) rfl rfl ?_
  show zEv _ _ _ (7, [some (.ref 73), some (.int a0)], [.int x785]) _ _ _
  refine zEv_if 1 (c := x785 = 0) (f1 := (10, [some (.ref 73), some (.int a0)], [])) (f2 := (13, [some (.ref 73), some (.int a0)], [])) (h1 := zHp I) (fun n => rfl) (fun hc => ?_) (fun hc => ?_)
  · rw [if_pos hc] at hf
    cases hf
    exact zEv_ret 2 (fun n => rfl)
  · rw [if_neg hc] at hf
    obtain ⟨I826, hx, hf⟩ := Option.bind_eq_some_iff.mp hf
    refine zEv_call 10 (N := 188) (vs := [.ref 73]) (v1 := none) (h1 := zHp I826) (L := [some (.ref 73), some (.int a0)]) (rest := []) (pc := 30) (fun n => rfl) (s_Mo_passAll hx d (by omega)) rfl rfl ?_
    show zEv _ _ _ (30, [some (.ref 73), some (.int a0)], []) _ _ _
    obtain ⟨hc, hf⟩ := zGd_inv hf
    refine zEv_gd 5 (c := zIn a0 2 ∧ ((1 : Int32) = 0 ∨ (1 : Int32) = 1)) (f1 := (37, [some (.ref 73), some (.int a0)], [])) (h1 := zHp (zUp I826 95 (Int32.toNatClampNeg a0) 1)) (fun n => rfl) hc ?_
    cases hf
    exact zEv_ret 2 (fun n => rfl)
def Mo_restore (n : Nat) (a0 : Int32) (I : zI) : Option (Int32 × zI) :=
  (Mo_in (Int32.toInt64 a0) 0 1 I).bind fun x827 =>
  if x827 = 0 then
    some ((-2), I)
  else
    if zIn a0 2 then
      if (I 95 (Int32.toNatClampNeg a0)) = 0 then
        some ((-3), I)
      else
        (Mo_passAll n (zUp (zUp I 73 30 (100 * a0)) 73 31 0)).bind fun I828 =>
        some (1, I828)
    else none
theorem s_Mo_restore {n : Nat} {a0 : Int32} {I : zI} {r : Int32} {I' : zI} (hf : Mo_restore n a0 I = some (r, I')) (d : Nat) (hd : 3 ≤ d) : zCall d 190 [.ref 73, .int a0] (zHp I) (some (.int r)) (zHp I') := by
  obtain ⟨d, rfl⟩ : ∃ e, d = e + 1 := ⟨d - 1, by omega⟩
  rw [Mo_restore] at hf
  show zEv _ _ _ (0, [some (.ref 73), some (.int a0)], []) _ _ _
  obtain ⟨x827, hx, hf⟩ := Option.bind_eq_some_iff.mp hf
  refine zEv_call 5 (N := 117) (vs := [.long (Int32.toInt64 a0), .long 0, .long 1]) (v1 := some (.int x827)) (h1 := zHp I) (L := [some (.ref 73), some (.int a0)]) (rest := []) (pc := 7) (fun n => rfl) (s_Mo_in hx d (by omega)) rfl rfl ?_
  show zEv _ _ _ (7, [some (.ref 73), some (.int a0)], [.int x827]) _ _ _
  refine zEv_if 1 (c := x827 = 0) (f1 := (10, [some (.ref 73), some (.int a0)], [])) (f2 := (13, [some (.ref 73), some (.int a0)], [])) (h1 := zHp I) (fun n => rfl) (fun hc => ?_) (fun hc => ?_)
  · rw [if_pos hc] at hf
    cases hf
    exact zEv_ret 2 (fun n => rfl)
  · rw [if_neg hc] at hf
    obtain ⟨hc, hf⟩ := zGd_inv hf
    refine zEv_gd 4 (c := zIn a0 2) (f1 := (19, [some (.ref 73), some (.int a0)], [.int (I 95 (Int32.toNatClampNeg a0))])) (h1 := zHp I) (fun n => rfl) hc ?_
    refine zEv_if 1 (c := (I 95 (Int32.toNatClampNeg a0)) = 0) (f1 := (22, [some (.ref 73), some (.int a0)], [])) (f2 := (25, [some (.ref 73), some (.int a0)], [])) (h1 := zHp I) (fun n => rfl) (fun hc => ?_) (fun hc => ?_)
    · rw [if_pos hc] at hf
      cases hf
      exact zEv_ret 2 (fun n => rfl)
    · rw [if_neg hc] at hf
      obtain ⟨I828, hx, hf⟩ := Option.bind_eq_some_iff.mp hf
      refine zEv_call 10 (N := 188) (vs := [.ref 73]) (v1 := none) (h1 := zHp I828) (L := [some (.ref 73), some (.int a0)]) (rest := []) (pc := 42) (fun n => rfl) (s_Mo_passAll hx d (by omega)) rfl rfl ?_
      show zEv _ _ _ (42, [some (.ref 73), some (.int a0)], []) _ _ _
      cases hf
      exact zEv_ret 2 (fun n => rfl)
def Mo_ofAll  (a0 : Int32) (I : zI) : Option (Int32) :=
  if a0 = 0 then
    some (I 73 12)
  else
    if a0 = 1 then
      some (I 73 5)
    else
      if a0 = 2 then
        some (I 73 6)
      else
        if a0 = 3 then
          some (I 73 10)
        else
          some (-2)
theorem s_Mo_ofAll  {a0 : Int32} {I : zI} {r : Int32} (hf : Mo_ofAll a0 I = some r) (d : Nat) (hd : 0 ≤ d) : zCall d 193 [.ref 73, .int a0] (zHp I) (some (.int r)) (zHp I) := by
  rw [Mo_ofAll] at hf
  show zEv _ _ _ (0, [some (.ref 73), some (.int a0)], []) _ _ _
  refine zEv_if 2 (c := a0 = 0) (f1 := (4, [some (.ref 73), some (.int a0)], [])) (f2 := (11, [some (.ref 73), some (.int a0)], [])) (h1 := zHp I) (fun n => rfl) (fun hc => ?_) (fun hc => ?_)
  · rw [if_pos hc] at hf
    cases hf
    exact zEv_ret 4 (fun n => rfl)
  · rw [if_neg hc] at hf
    refine zEv_if 3 (c := a0 = 1) (f1 := (16, [some (.ref 73), some (.int a0)], [])) (f2 := (23, [some (.ref 73), some (.int a0)], [])) (h1 := zHp I) (fun n => rfl) (fun hc => ?_) (fun hc => ?_)
    · rw [if_pos hc] at hf
      cases hf
      exact zEv_ret 4 (fun n => rfl)
    · rw [if_neg hc] at hf
      refine zEv_if 3 (c := a0 = 2) (f1 := (28, [some (.ref 73), some (.int a0)], [])) (f2 := (35, [some (.ref 73), some (.int a0)], [])) (h1 := zHp I) (fun n => rfl) (fun hc => ?_) (fun hc => ?_)
      · rw [if_pos hc] at hf
        cases hf
        exact zEv_ret 4 (fun n => rfl)
      · rw [if_neg hc] at hf
        refine zEv_if 3 (c := a0 = 3) (f1 := (40, [some (.ref 73), some (.int a0)], [])) (f2 := (47, [some (.ref 73), some (.int a0)], [])) (h1 := zHp I) (fun n => rfl) (fun hc => ?_) (fun hc => ?_)
        · rw [if_pos hc] at hf
          cases hf
          exact zEv_ret 4 (fun n => rfl)
        · rw [if_neg hc] at hf
          cases hf
          exact zEv_ret 2 (fun n => rfl)
