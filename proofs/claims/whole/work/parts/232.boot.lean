set_option maxRecDepth 100000
theorem s_BM_isWithin_h49_46  {a0 : Int32} {a1 : Int32} {a2 : Int32} {I : zI} {r : Int32} (hf : BM_isWithin a0 a1 a2 I = some r) (d : Nat) (hd : 0 ≤ d) : zCall d 109 [.int a0, .int a1, .int a2] (zSa49, zRa46, I) (some (.int r)) (zSa49, zRa46, I) := by
  rw [BM_isWithin] at hf
  show zEv _ _ _ (0, [some (.int a0), some (.int a1), some (.int a2)], []) _ _ _
  refine zEv_if 3 (c := a0 < a1) (f1 := (14, [some (.int a0), some (.int a1), some (.int a2)], [])) (f2 := (5, [some (.int a0), some (.int a1), some (.int a2)], [])) (h1 := (zSa49, zRa46, I)) (fun n => rfl) (fun hc => ?_) (fun hc => ?_)
  · rw [if_pos hc] at hf
    cases hf
    exact zEv_ret 2 (fun n => rfl)
  · rw [if_neg hc] at hf
    refine zEv_if 3 (c := a2 < a0) (f1 := (14, [some (.int a0), some (.int a1), some (.int a2)], [])) (f2 := (10, [some (.int a0), some (.int a1), some (.int a2)], [])) (h1 := (zSa49, zRa46, I)) (fun n => rfl) (fun hc => ?_) (fun hc => ?_)
    · rw [if_pos hc] at hf
      cases hf
      exact zEv_ret 2 (fun n => rfl)
    · rw [if_neg hc] at hf
      cases hf
      exact zEv_ret 3 (fun n => rfl)
theorem s_BM_isOne_h49_46  {a0 : Int32} {I : zI} {r : Int32} (hf : BM_isOne a0 I = some r) (d : Nat) (hd : 1 ≤ d) : zCall d 111 [.int a0] (zSa49, zRa46, I) (some (.int r)) (zSa49, zRa46, I) := by
  obtain ⟨d, rfl⟩ : ∃ e, d = e + 1 := ⟨d - 1, by omega⟩
  rw [BM_isOne] at hf
  show zEv _ _ _ (0, [some (.int a0)], []) _ _ _
  obtain ⟨x52, hx, hf⟩ := Option.bind_eq_some_iff.mp hf
  refine zEv_call 4 (N := 109) (vs := [.int a0, .int 0, .int 7]) (v1 := some (.int x52)) (h1 := (zSa49, zRa46, I)) (L := [some (.int a0)]) (rest := []) (pc := 7) (fun n => rfl) (s_BM_isWithin_h49_46 hx d (by omega)) rfl rfl ?_
  show zEv _ _ _ (7, [some (.int a0)], [.int x52]) _ _ _
  obtain ⟨hc, hf⟩ := zGd_inv hf
  cases hf
  exact zEv_rt hc 1 (fun n => rfl)
theorem s_Rw_put_44_h49_46  {a0 : Int32} {a1 : Int32} {I : zI} {I' : zI} (hf : Rw_put_44 a0 a1 I = some I') (d : Nat) (hd : 0 ≤ d) : zCall d 61 [.ref 44, .int a0, .int a1] (zSa49, zRa46, I) (none) (zSa49, zRa46, I') := by
  rw [Rw_put_44] at hf
  show zEv _ _ _ (0, [some (.ref 44), some (.int a0), some (.int a1)], []) _ _ _
  refine zEv_if 2 (c := a0 < 0) (f1 := (20, [some (.ref 44), some (.int a0), some (.int a1)], [])) (f2 := (4, [some (.ref 44), some (.int a0), some (.int a1)], [])) (h1 := (zSa49, zRa46, I)) (fun n => rfl) (fun hc => ?_) (fun hc => ?_)
  · rw [if_pos hc] at hf
    cases hf
    exact zEv_ret 1 (fun n => rfl)
  · rw [if_neg hc] at hf
    refine zEv_if 5 (c := 12 ≤ a0) (f1 := (20, [some (.ref 44), some (.int a0), some (.int a1)], [])) (f2 := (13, [some (.ref 44), some (.int a0), some (.int a1)], [])) (h1 := (zSa49, zRa46, I)) (fun n => rfl) (fun hc => ?_) (fun hc => ?_)
    · rw [if_pos hc] at hf
      cases hf
      exact zEv_ret 1 (fun n => rfl)
    · rw [if_neg hc] at hf
      obtain ⟨hc, hf⟩ := zGd_inv hf
      refine zEv_gd 5 (c := zIn a0 12) (f1 := (20, [some (.ref 44), some (.int a0), some (.int a1)], [])) (h1 := (zSa49, zRa46, (zUp I 45 (Int32.toNatClampNeg a0) a1))) (fun n => rfl) hc ?_
      cases hf
      exact zEv_ret 1 (fun n => rfl)
def ziGa_39_L94 : Nat → Int32 → zI → Option (zI)
  | 0, _, _ => none
  | n + 1, v1, I =>
    if 12 ≤ v1 then
      some I
    else
      (BM_isOne v1 I).bind fun x53 =>
      (
        if x53 = 0 then
          some (-6)
        else
          some v1 : Option (Int32)).bind fun x55 =>
      (Rw_put_44 v1 x55 I).bind fun I56 =>
      ziGa_39_L94 n (v1 + 1) I56
theorem s_ziGa_39_h39_36_L94 (d : Nat) (hd : 2 ≤ d) : ∀ (n : Nat) {v1 : Int32} {I : zI}  {I' : zI} {v : Option Value} {h' : zH}, ziGa_39_L94 n v1 I = some I' → zEv none d 9 (127, [some (.ref 39), none], []) (zSa49, zRa46, I') v h' → zEv none d 9 (94, [some (.ref 39), some (.int v1)], []) (zSa49, zRa46, I) v h' := by
  obtain ⟨d, rfl⟩ : ∃ e, d = e + 1 := ⟨d - 1, by omega⟩
  intro n
  induction n with
  | zero => intros; rename_i hf _; cases hf
  | succ n ih =>
    intro v1 I I' v h' hf kk
    rw [ziGa_39_L94] at hf
    refine zEv_if 3 (c := 12 ≤ v1) (f1 := (127, [some (.ref 39), some (.int v1)], [])) (f2 := (100, [some (.ref 39), some (.int v1)], [])) (h1 := (zSa49, zRa46, I)) (fun n => rfl) (fun hc => ?_) (fun hc => ?_)
    · rw [if_pos hc] at hf
      obtain rfl := Option.some.inj hf
      exact zEv_weak (L := [some (.ref 39), none]) (by exact ⟨rfl, ⟨rfl, trivial⟩⟩) kk
    · rw [if_neg hc] at hf
      obtain ⟨x53, hx, hf⟩ := Option.bind_eq_some_iff.mp hf
      refine zEv_call 5 (N := 111) (vs := [.int v1]) (v1 := some (.int x53)) (h1 := (zSa49, zRa46, I)) (L := [some (.ref 39), some (.int v1)]) (rest := [.int v1, .ref 44]) (pc := 109) (fun n => rfl) (s_BM_isOne_h49_46 hx d (by omega)) rfl rfl ?_
      show zEv _ _ _ (109, [some (.ref 39), some (.int v1)], [.int x53, .int v1, .ref 44]) _ _ _
      obtain ⟨x55, hm_m54, hf⟩ := Option.bind_eq_some_iff.mp hf
      have hJ_m54 : zEv none (d + 1) 9 (118, [some (.ref 39), some (.int v1)], [.int x55, .int v1, .ref 44]) ((zSa49, zRa46, I)) v h' := by
        obtain ⟨I56, hx, hf⟩ := Option.bind_eq_some_iff.mp hf
        refine zEv_call 1 (N := 61) (vs := [.ref 44, .int v1, .int x55]) (v1 := none) (h1 := (zSa49, zRa46, I56)) (L := [some (.ref 39), some (.int v1)]) (rest := []) (pc := 121) (fun n => rfl) (s_Rw_put_44_h49_46 hx d (by omega)) rfl rfl ?_
        show zEv _ _ _ (121, [some (.ref 39), some (.int v1)], []) _ _ _
        refine zEv_go 2 (f1 := (94, [some (.ref 39), some (.int (v1 + 1))], [])) (h1 := (zSa49, zRa46, I56)) (fun n => rfl) ?_
        refine zEv_weak (L := [some (.ref 39), some (.int (v1 + 1))]) (by exact ⟨rfl, ⟨rfl, trivial⟩⟩) ?_
        exact ih hf kk
      clear hf
      refine zEv_if 1 (c := x53 = 0) (f1 := (116, [some (.ref 39), some (.int v1)], [.int v1, .ref 44])) (f2 := (112, [some (.ref 39), some (.int v1)], [.int v1, .ref 44])) (h1 := (zSa49, zRa46, I)) (fun n => rfl) (fun hc => ?_) (fun hc => ?_)
      · rw [if_pos hc] at hm_m54
        obtain rfl := Option.some.inj hm_m54
        refine zEv_go 1 (f1 := (118, [some (.ref 39), some (.int v1)], [.int (-6), .int v1, .ref 44])) (h1 := (zSa49, zRa46, I)) (fun n => rfl) ?_
        exact zEv_weak (L := [some (.ref 39), some (.int v1)]) (by exact ⟨rfl, ⟨rfl, trivial⟩⟩) hJ_m54
      · rw [if_neg hc] at hm_m54
        obtain rfl := Option.some.inj hm_m54
        refine zEv_go 2 (f1 := (118, [some (.ref 39), some (.int v1)], [.int v1, .int v1, .ref 44])) (h1 := (zSa49, zRa46, I)) (fun n => rfl) ?_
        exact zEv_weak (L := [some (.ref 39), some (.int v1)]) (by exact ⟨rfl, ⟨rfl, trivial⟩⟩) hJ_m54
def ziGa_39_L71 : Nat → Int32 → zI → Option (zI)
  | 0, _, _ => none
  | n + 1, v1, I =>
    if 8 ≤ v1 then
      some I
    else
      (Rw_put_42 v1 v1 I).bind fun I50 =>
      ziGa_39_L71 n (v1 + 1) I50
theorem s_ziGa_39_h39_36_L71 (d : Nat) (hd : 2 ≤ d) : ∀ (n : Nat) {v1 : Int32} {I : zI}  {I' : zI} {v : Option Value} {h' : zH}, ziGa_39_L71 n v1 I = some I' → zEv none d 9 (92, [some (.ref 39), none], []) (zSa49, zRa46, I') v h' → zEv none d 9 (71, [some (.ref 39), some (.int v1)], []) (zSa49, zRa46, I) v h' := by
  obtain ⟨d, rfl⟩ : ∃ e, d = e + 1 := ⟨d - 1, by omega⟩
  intro n
  induction n with
  | zero => intros; rename_i hf _; cases hf
  | succ n ih =>
    intro v1 I I' v h' hf kk
    rw [ziGa_39_L71] at hf
    refine zEv_if 3 (c := 8 ≤ v1) (f1 := (92, [some (.ref 39), some (.int v1)], [])) (f2 := (77, [some (.ref 39), some (.int v1)], [])) (h1 := (zSa49, zRa46, I)) (fun n => rfl) (fun hc => ?_) (fun hc => ?_)
    · rw [if_pos hc] at hf
      obtain rfl := Option.some.inj hf
      exact zEv_weak (L := [some (.ref 39), none]) (by exact ⟨rfl, ⟨rfl, trivial⟩⟩) kk
    · rw [if_neg hc] at hf
      obtain ⟨I50, hx, hf⟩ := Option.bind_eq_some_iff.mp hf
      refine zEv_call 5 (N := 61) (vs := [.ref 42, .int v1, .int v1]) (v1 := none) (h1 := (zSa49, zRa46, I50)) (L := [some (.ref 39), some (.int v1)]) (rest := []) (pc := 86) (fun n => rfl) (s_Rw_put_42_h49_46 hx d (by omega)) rfl rfl ?_
      show zEv _ _ _ (86, [some (.ref 39), some (.int v1)], []) _ _ _
      refine zEv_go 2 (f1 := (71, [some (.ref 39), some (.int (v1 + 1))], [])) (h1 := (zSa49, zRa46, I50)) (fun n => rfl) ?_
      refine zEv_weak (L := [some (.ref 39), some (.int (v1 + 1))]) (by exact ⟨rfl, ⟨rfl, trivial⟩⟩) ?_
      exact ih hf kk
def ziGa_39 (n : Nat) (I : zI) : Option (zI) :=
  (ziRw_40 (zRow I 40 (fun _ => 0))).bind fun I45 =>
  (ziRw_42 (zRow I45 42 (fun _ => 0))).bind fun I46 =>
  (ziRw_44 (zRow I46 44 (fun _ => 0))).bind fun I47 =>
  (ziRw_46 (zRow I47 46 (fun _ => 0))).bind fun I48 =>
  (ziRw_48 (zRow I48 48 (fun _ => 0))).bind fun I49 =>
  (ziGa_39_L71 n 0 I49).bind fun I51 =>
  (ziGa_39_L94 n 0 I51).bind fun I57 =>
  some I57
theorem s_ziGa_39_h39_36 {n : Nat} {I : zI} {I' : zI} (hf : ziGa_39 n I = some I') (d : Nat) (hd : 2 ≤ d) : zCall d 9 [.ref 39] (zSa39, zRa36, I) (none) (zSa49, zRa46, I') := by
  obtain ⟨d, rfl⟩ : ∃ e, d = e + 1 := ⟨d - 1, by omega⟩
  rw [ziGa_39] at hf
  show zEv _ _ _ (0, [some (.ref 39), none], []) _ _ _
  refine zEv_gd 4 (c := zVs 39 [some (.ref 39), none] [.ref 39] = true ∧ zHok (zSa39, zRa36, I) = true) (f1 := (8, [some (.ref 39), none], [.ref 40, .ref 39])) (h1 := (zSa40, zRa36, (zRow I 40 (fun _ => 0)))) (fun n => rfl) ⟨rfl, zHk_39_36 _⟩ ?_
  obtain ⟨I45, hx, hf⟩ := Option.bind_eq_some_iff.mp hf
  refine zEv_calln 3 (N := 59) (vs := [.ref 40, .int 10]) (v1 := none) (h1 := (zSa41, zRa37, I45)) (L := [some (.ref 39), none]) (rest := [.ref 40, .ref 39]) (pc := 14) (fun n => rfl) (s_ziRw_40_h40_36 hx d (by omega)) rfl rfl ?_
  show zEv _ _ _ (14, [some (.ref 39), none], [.ref 40, .ref 39]) _ _ _
  refine zEv_gd 3 (c := zVs 41 [some (.ref 39), none] [.ref 39] = true ∧ zHok (zSa41, zRa38, I45) = true) (f1 := (21, [some (.ref 39), none], [.ref 42, .ref 39])) (h1 := (zSa42, zRa38, (zRow I45 42 (fun _ => 0)))) (fun n => rfl) ⟨rfl, zHk_41_38 _⟩ ?_
  obtain ⟨I46, hx, hf⟩ := Option.bind_eq_some_iff.mp hf
  refine zEv_calln 3 (N := 59) (vs := [.ref 42, .int 8]) (v1 := none) (h1 := (zSa43, zRa39, I46)) (L := [some (.ref 39), none]) (rest := [.ref 42, .ref 39]) (pc := 27) (fun n => rfl) (s_ziRw_42_h42_38 hx d (by omega)) rfl rfl ?_
  show zEv _ _ _ (27, [some (.ref 39), none], [.ref 42, .ref 39]) _ _ _
  refine zEv_gd 3 (c := zVs 43 [some (.ref 39), none] [.ref 39] = true ∧ zHok (zSa43, zRa40, I46) = true) (f1 := (34, [some (.ref 39), none], [.ref 44, .ref 39])) (h1 := (zSa44, zRa40, (zRow I46 44 (fun _ => 0)))) (fun n => rfl) ⟨rfl, zHk_43_40 _⟩ ?_
  obtain ⟨I47, hx, hf⟩ := Option.bind_eq_some_iff.mp hf
  refine zEv_calln 3 (N := 59) (vs := [.ref 44, .int 12]) (v1 := none) (h1 := (zSa45, zRa41, I47)) (L := [some (.ref 39), none]) (rest := [.ref 44, .ref 39]) (pc := 40) (fun n => rfl) (s_ziRw_44_h44_40 hx d (by omega)) rfl rfl ?_
  show zEv _ _ _ (40, [some (.ref 39), none], [.ref 44, .ref 39]) _ _ _
  refine zEv_gd 3 (c := zVs 45 [some (.ref 39), none] [.ref 39] = true ∧ zHok (zSa45, zRa42, I47) = true) (f1 := (47, [some (.ref 39), none], [.ref 46, .ref 39])) (h1 := (zSa46, zRa42, (zRow I47 46 (fun _ => 0)))) (fun n => rfl) ⟨rfl, zHk_45_42 _⟩ ?_
  obtain ⟨I48, hx, hf⟩ := Option.bind_eq_some_iff.mp hf
  refine zEv_calln 3 (N := 59) (vs := [.ref 46, .int 12]) (v1 := none) (h1 := (zSa47, zRa43, I48)) (L := [some (.ref 39), none]) (rest := [.ref 46, .ref 39]) (pc := 53) (fun n => rfl) (s_ziRw_46_h46_42 hx d (by omega)) rfl rfl ?_
  show zEv _ _ _ (53, [some (.ref 39), none], [.ref 46, .ref 39]) _ _ _
  refine zEv_gd 3 (c := zVs 47 [some (.ref 39), none] [.ref 39] = true ∧ zHok (zSa47, zRa44, I48) = true) (f1 := (60, [some (.ref 39), none], [.ref 48, .ref 39])) (h1 := (zSa48, zRa44, (zRow I48 48 (fun _ => 0)))) (fun n => rfl) ⟨rfl, zHk_47_44 _⟩ ?_
  obtain ⟨I49, hx, hf⟩ := Option.bind_eq_some_iff.mp hf
  refine zEv_calln 3 (N := 59) (vs := [.ref 48, .int 8]) (v1 := none) (h1 := (zSa49, zRa45, I49)) (L := [some (.ref 39), none]) (rest := [.ref 48, .ref 39]) (pc := 66) (fun n => rfl) (s_ziRw_48_h48_44 hx d (by omega)) rfl rfl ?_
  show zEv _ _ _ (66, [some (.ref 39), none], [.ref 48, .ref 39]) _ _ _
  obtain ⟨I51, hx, hf⟩ := Option.bind_eq_some_iff.mp hf
  refine zEv_go 3 (f1 := (71, [some (.ref 39), some (.int 0)], [])) (h1 := (zSa49, zRa46, I49)) (fun n => rfl) ?_
  refine zEv_weak (L := [some (.ref 39), some (.int 0)]) (by exact ⟨rfl, ⟨rfl, trivial⟩⟩) (s_ziGa_39_h39_36_L71 (d + 1) (by omega) n hx ?_)
  obtain ⟨I57, hx, hf⟩ := Option.bind_eq_some_iff.mp hf
  refine zEv_go 2 (f1 := (94, [some (.ref 39), some (.int 0)], [])) (h1 := (zSa49, zRa46, I51)) (fun n => rfl) ?_
  refine zEv_weak (L := [some (.ref 39), some (.int 0)]) (by exact ⟨rfl, ⟨rfl, trivial⟩⟩) (s_ziGa_39_h39_36_L94 (d + 1) (by omega) n hx ?_)
  cases hf
  exact zEv_ret 1 (fun n => rfl)
def ziRw_50  (I : zI) : Option (zI) :=
  some (zRow I 51 (fun _ => 0))
theorem s_ziRw_50_h50_47  {I : zI} {I' : zI} (hf : ziRw_50 I = some I') (d : Nat) (hd : 1 ≤ d) : zCall d 59 [.ref 50, .int 12] (zSa50, zRa47, I) (none) (zSa51, zRa48, I') := by
  obtain ⟨d, rfl⟩ : ∃ e, d = e + 1 := ⟨d - 1, by omega⟩
  rw [ziRw_50] at hf
  show zEv _ _ _ (0, [some (.ref 50), some (.int 12)], []) _ _ _
  refine zEv_gd 7 (c := ¬ (12 : Int32) < 0 ∧ Int32.toNatClampNeg 12 ≤ 100000 ∧ zVs 50 [some (.ref 50), some (.int 12)] [.ref 50] = true ∧ zHok (zSa50, zRa47, I) = true) (f1 := (12, [some (.ref 50), some (.int 12)], [.ref 51, .ref 50])) (h1 := (zSa51, zRa47, (zRow I 51 (fun _ => 0)))) (fun n => rfl) ⟨by decide, by decide, rfl, zHk_50_47 _⟩ ?_
  cases hf
  exact zEv_ret 2 (fun n => rfl)
def ziCo_38 (n : Nat) (I : zI) : Option (zI) :=
  (ziGa_39 n (zRow I 39 (fun _ => 0))).bind fun I58 =>
  (ziRw_50 (zRow I58 50 (fun _ => 0))).bind fun I59 =>
  some I59
theorem s_ziCo_38_h38_36 {n : Nat} {I : zI} {I' : zI} (hf : ziCo_38 n I = some I') (d : Nat) (hd : 3 ≤ d) : zCall d 0 [.ref 38] (zSa38, zRa36, I) (none) (zSa51, zRa49, I') := by
  obtain ⟨d, rfl⟩ : ∃ e, d = e + 1 := ⟨d - 1, by omega⟩
  rw [ziCo_38] at hf
  show zEv _ _ _ (0, [some (.ref 38)], []) _ _ _
  refine zEv_gd 4 (c := zVs 38 [some (.ref 38)] [.ref 38] = true ∧ zHok (zSa38, zRa36, I) = true) (f1 := (8, [some (.ref 38)], [.ref 39, .ref 38])) (h1 := (zSa39, zRa36, (zRow I 39 (fun _ => 0)))) (fun n => rfl) ⟨rfl, zHk_38_36 _⟩ ?_
  obtain ⟨I58, hx, hf⟩ := Option.bind_eq_some_iff.mp hf
  refine zEv_calln 2 (N := 9) (vs := [.ref 39]) (v1 := none) (h1 := (zSa49, zRa46, I58)) (L := [some (.ref 38)]) (rest := [.ref 39, .ref 38]) (pc := 12) (fun n => rfl) (s_ziGa_39_h39_36 hx d (by omega)) rfl rfl ?_
  show zEv _ _ _ (12, [some (.ref 38)], [.ref 39, .ref 38]) _ _ _
  refine zEv_gd 3 (c := zVs 49 [some (.ref 38)] [.ref 38] = true ∧ zHok (zSa49, zRa47, I58) = true) (f1 := (19, [some (.ref 38)], [.ref 50, .ref 38])) (h1 := (zSa50, zRa47, (zRow I58 50 (fun _ => 0)))) (fun n => rfl) ⟨rfl, zHk_49_47 _⟩ ?_
  obtain ⟨I59, hx, hf⟩ := Option.bind_eq_some_iff.mp hf
  refine zEv_calln 3 (N := 59) (vs := [.ref 50, .int 12]) (v1 := none) (h1 := (zSa51, zRa48, I59)) (L := [some (.ref 38)]) (rest := [.ref 50, .ref 38]) (pc := 25) (fun n => rfl) (s_ziRw_50_h50_47 hx d (by omega)) rfl rfl ?_
  show zEv _ _ _ (25, [some (.ref 38)], [.ref 50, .ref 38]) _ _ _
  cases hf
  exact zEv_ret 2 (fun n => rfl)
def ziRw_53  (I : zI) : Option (zI) :=
  some (zRow I 54 (fun _ => 0))
theorem s_ziRw_53_h53_50  {I : zI} {I' : zI} (hf : ziRw_53 I = some I') (d : Nat) (hd : 1 ≤ d) : zCall d 59 [.ref 53, .int 10] (zSa53, zRa50, I) (none) (zSa54, zRa51, I') := by
  obtain ⟨d, rfl⟩ : ∃ e, d = e + 1 := ⟨d - 1, by omega⟩
  rw [ziRw_53] at hf
  show zEv _ _ _ (0, [some (.ref 53), some (.int 10)], []) _ _ _
  refine zEv_gd 7 (c := ¬ (10 : Int32) < 0 ∧ Int32.toNatClampNeg 10 ≤ 100000 ∧ zVs 53 [some (.ref 53), some (.int 10)] [.ref 53] = true ∧ zHok (zSa53, zRa50, I) = true) (f1 := (12, [some (.ref 53), some (.int 10)], [.ref 54, .ref 53])) (h1 := (zSa54, zRa50, (zRow I 54 (fun _ => 0)))) (fun n => rfl) ⟨by decide, by decide, rfl, zHk_53_50 _⟩ ?_
  cases hf
  exact zEv_ret 2 (fun n => rfl)
def ziRw_55  (I : zI) : Option (zI) :=
  some (zRow I 56 (fun _ => 0))
theorem s_ziRw_55_h55_52  {I : zI} {I' : zI} (hf : ziRw_55 I = some I') (d : Nat) (hd : 1 ≤ d) : zCall d 59 [.ref 55, .int 100] (zSa55, zRa52, I) (none) (zSa56, zRa53, I') := by
  obtain ⟨d, rfl⟩ : ∃ e, d = e + 1 := ⟨d - 1, by omega⟩
  rw [ziRw_55] at hf
  show zEv _ _ _ (0, [some (.ref 55), some (.int 100)], []) _ _ _
  refine zEv_gd 7 (c := ¬ (100 : Int32) < 0 ∧ Int32.toNatClampNeg 100 ≤ 100000 ∧ zVs 55 [some (.ref 55), some (.int 100)] [.ref 55] = true ∧ zHok (zSa55, zRa52, I) = true) (f1 := (12, [some (.ref 55), some (.int 100)], [.ref 56, .ref 55])) (h1 := (zSa56, zRa52, (zRow I 56 (fun _ => 0)))) (fun n => rfl) ⟨by decide, by decide, rfl, zHk_55_52 _⟩ ?_
  cases hf
  exact zEv_ret 2 (fun n => rfl)
def ziRw_57  (I : zI) : Option (zI) :=
  some (zRow I 58 (fun _ => 0))
theorem s_ziRw_57_h57_54  {I : zI} {I' : zI} (hf : ziRw_57 I = some I') (d : Nat) (hd : 1 ≤ d) : zCall d 59 [.ref 57, .int 4608] (zSa57, zRa54, I) (none) (zSa58, zRa55, I') := by
  obtain ⟨d, rfl⟩ : ∃ e, d = e + 1 := ⟨d - 1, by omega⟩
  rw [ziRw_57] at hf
  show zEv _ _ _ (0, [some (.ref 57), some (.int 4608)], []) _ _ _
  refine zEv_gd 7 (c := ¬ (4608 : Int32) < 0 ∧ Int32.toNatClampNeg 4608 ≤ 100000 ∧ zVs 57 [some (.ref 57), some (.int 4608)] [.ref 57] = true ∧ zHok (zSa57, zRa54, I) = true) (f1 := (12, [some (.ref 57), some (.int 4608)], [.ref 58, .ref 57])) (h1 := (zSa58, zRa54, (zRow I 58 (fun _ => 0)))) (fun n => rfl) ⟨by decide, by decide, rfl, zHk_57_54 _⟩ ?_
  cases hf
  exact zEv_ret 2 (fun n => rfl)
def ziRd_52  (I : zI) : Option (zI) :=
  (ziRw_53 (zRow I 53 (fun _ => 0))).bind fun I61 =>
  (ziRw_55 (zRow I61 55 (fun _ => 0))).bind fun I62 =>
  (ziRw_57 (zRow I62 57 (fun _ => 0))).bind fun I63 =>
  some I63
theorem s_ziRd_52_h52_50  {I : zI} {I' : zI} (hf : ziRd_52 I = some I') (d : Nat) (hd : 2 ≤ d) : zCall d 54 [.ref 52] (zSa52, zRa50, I) (none) (zSa58, zRa56, I') := by
  obtain ⟨d, rfl⟩ : ∃ e, d = e + 1 := ⟨d - 1, by omega⟩
  rw [ziRd_52] at hf
  show zEv _ _ _ (0, [some (.ref 52)], []) _ _ _
  refine zEv_gd 4 (c := zVs 52 [some (.ref 52)] [.ref 52] = true ∧ zHok (zSa52, zRa50, I) = true) (f1 := (8, [some (.ref 52)], [.ref 53, .ref 52])) (h1 := (zSa53, zRa50, (zRow I 53 (fun _ => 0)))) (fun n => rfl) ⟨rfl, zHk_52_50 _⟩ ?_
  obtain ⟨I61, hx, hf⟩ := Option.bind_eq_some_iff.mp hf
  refine zEv_calln 3 (N := 59) (vs := [.ref 53, .int 10]) (v1 := none) (h1 := (zSa54, zRa51, I61)) (L := [some (.ref 52)]) (rest := [.ref 53, .ref 52]) (pc := 14) (fun n => rfl) (s_ziRw_53_h53_50 hx d (by omega)) rfl rfl ?_
  show zEv _ _ _ (14, [some (.ref 52)], [.ref 53, .ref 52]) _ _ _
  refine zEv_gd 3 (c := zVs 54 [some (.ref 52)] [.ref 52] = true ∧ zHok (zSa54, zRa52, I61) = true) (f1 := (21, [some (.ref 52)], [.ref 55, .ref 52])) (h1 := (zSa55, zRa52, (zRow I61 55 (fun _ => 0)))) (fun n => rfl) ⟨rfl, zHk_54_52 _⟩ ?_
  obtain ⟨I62, hx, hf⟩ := Option.bind_eq_some_iff.mp hf
  refine zEv_calln 3 (N := 59) (vs := [.ref 55, .int 100]) (v1 := none) (h1 := (zSa56, zRa53, I62)) (L := [some (.ref 52)]) (rest := [.ref 55, .ref 52]) (pc := 27) (fun n => rfl) (s_ziRw_55_h55_52 hx d (by omega)) rfl rfl ?_
  show zEv _ _ _ (27, [some (.ref 52)], [.ref 55, .ref 52]) _ _ _
  refine zEv_gd 3 (c := zVs 56 [some (.ref 52)] [.ref 52] = true ∧ zHok (zSa56, zRa54, I62) = true) (f1 := (34, [some (.ref 52)], [.ref 57, .ref 52])) (h1 := (zSa57, zRa54, (zRow I62 57 (fun _ => 0)))) (fun n => rfl) ⟨rfl, zHk_56_54 _⟩ ?_
  obtain ⟨I63, hx, hf⟩ := Option.bind_eq_some_iff.mp hf
  refine zEv_calln 3 (N := 59) (vs := [.ref 57, .int 4608]) (v1 := none) (h1 := (zSa58, zRa55, I63)) (L := [some (.ref 52)]) (rest := [.ref 57, .ref 52]) (pc := 41) (fun n => rfl) (s_ziRw_57_h57_54 hx d (by omega)) rfl rfl ?_
  show zEv _ _ _ (41, [some (.ref 52)], [.ref 57, .ref 52]) _ _ _
  cases hf
  exact zEv_ret 2 (fun n => rfl)
def ziRw_60  (I : zI) : Option (zI) :=
  some (zRow I 61 (fun _ => 0))
theorem s_ziRw_60_h60_57  {I : zI} {I' : zI} (hf : ziRw_60 I = some I') (d : Nat) (hd : 1 ≤ d) : zCall d 59 [.ref 60, .int 1024] (zSa60, zRa57, I) (none) (zSa61, zRa58, I') := by
  obtain ⟨d, rfl⟩ : ∃ e, d = e + 1 := ⟨d - 1, by omega⟩
  rw [ziRw_60] at hf
  show zEv _ _ _ (0, [some (.ref 60), some (.int 1024)], []) _ _ _
  refine zEv_gd 7 (c := ¬ (1024 : Int32) < 0 ∧ Int32.toNatClampNeg 1024 ≤ 100000 ∧ zVs 60 [some (.ref 60), some (.int 1024)] [.ref 60] = true ∧ zHok (zSa60, zRa57, I) = true) (f1 := (12, [some (.ref 60), some (.int 1024)], [.ref 61, .ref 60])) (h1 := (zSa61, zRa57, (zRow I 61 (fun _ => 0)))) (fun n => rfl) ⟨by decide, by decide, rfl, zHk_60_57 _⟩ ?_
  cases hf
  exact zEv_ret 2 (fun n => rfl)
def ziWa_59  (I : zI) : Option (zI) :=
  (ziRw_60 (zRow I 60 (fun _ => 0))).bind fun I65 =>
  some I65
theorem s_ziWa_59_h59_57  {I : zI} {I' : zI} (hf : ziWa_59 I = some I') (d : Nat) (hd : 2 ≤ d) : zCall d 72 [.ref 59] (zSa59, zRa57, I) (none) (zSa61, zRa59, I') := by
  obtain ⟨d, rfl⟩ : ∃ e, d = e + 1 := ⟨d - 1, by omega⟩
  rw [ziWa_59] at hf
  show zEv _ _ _ (0, [some (.ref 59)], []) _ _ _
  refine zEv_gd 4 (c := zVs 59 [some (.ref 59)] [.ref 59] = true ∧ zHok (zSa59, zRa57, I) = true) (f1 := (8, [some (.ref 59)], [.ref 60, .ref 59])) (h1 := (zSa60, zRa57, (zRow I 60 (fun _ => 0)))) (fun n => rfl) ⟨rfl, zHk_59_57 _⟩ ?_
  obtain ⟨I65, hx, hf⟩ := Option.bind_eq_some_iff.mp hf
  refine zEv_calln 3 (N := 59) (vs := [.ref 60, .int 1024]) (v1 := none) (h1 := (zSa61, zRa58, I65)) (L := [some (.ref 59)]) (rest := [.ref 60, .ref 59]) (pc := 15) (fun n => rfl) (s_ziRw_60_h60_57 hx d (by omega)) rfl rfl ?_
  show zEv _ _ _ (15, [some (.ref 59)], [.ref 60, .ref 59]) _ _ _
  cases hf
  exact zEv_ret 2 (fun n => rfl)
def ziRw_63  (I : zI) : Option (zI) :=
  some (zRow I 64 (fun _ => 0))
theorem s_ziRw_63_h63_60  {I : zI} {I' : zI} (hf : ziRw_63 I = some I') (d : Nat) (hd : 1 ≤ d) : zCall d 59 [.ref 63, .int 7] (zSa63, zRa60, I) (none) (zSa64, zRa61, I') := by
  obtain ⟨d, rfl⟩ : ∃ e, d = e + 1 := ⟨d - 1, by omega⟩
  rw [ziRw_63] at hf
  show zEv _ _ _ (0, [some (.ref 63), some (.int 7)], []) _ _ _
  refine zEv_gd 7 (c := ¬ (7 : Int32) < 0 ∧ Int32.toNatClampNeg 7 ≤ 100000 ∧ zVs 63 [some (.ref 63), some (.int 7)] [.ref 63] = true ∧ zHok (zSa63, zRa60, I) = true) (f1 := (12, [some (.ref 63), some (.int 7)], [.ref 64, .ref 63])) (h1 := (zSa64, zRa60, (zRow I 64 (fun _ => 0)))) (fun n => rfl) ⟨by decide, by decide, rfl, zHk_63_60 _⟩ ?_
  cases hf
  exact zEv_ret 2 (fun n => rfl)
def ziOd_62  (I : zI) : Option (zI) :=
  (ziRw_63 (zRow I 63 (fun _ => 0))).bind fun I67 =>
  some I67
theorem s_ziOd_62_h62_60  {I : zI} {I' : zI} (hf : ziOd_62 I = some I') (d : Nat) (hd : 2 ≤ d) : zCall d 40 [.ref 62] (zSa62, zRa60, I) (none) (zSa64, zRa62, I') := by
  obtain ⟨d, rfl⟩ : ∃ e, d = e + 1 := ⟨d - 1, by omega⟩
  rw [ziOd_62] at hf
  show zEv _ _ _ (0, [some (.ref 62)], []) _ _ _
  refine zEv_gd 4 (c := zVs 62 [some (.ref 62)] [.ref 62] = true ∧ zHok (zSa62, zRa60, I) = true) (f1 := (8, [some (.ref 62)], [.ref 63, .ref 62])) (h1 := (zSa63, zRa60, (zRow I 63 (fun _ => 0)))) (fun n => rfl) ⟨rfl, zHk_62_60 _⟩ ?_
  obtain ⟨I67, hx, hf⟩ := Option.bind_eq_some_iff.mp hf
  refine zEv_calln 3 (N := 59) (vs := [.ref 63, .int 7]) (v1 := none) (h1 := (zSa64, zRa61, I67)) (L := [some (.ref 62)]) (rest := [.ref 63, .ref 62]) (pc := 14) (fun n => rfl) (s_ziRw_63_h63_60 hx d (by omega)) rfl rfl ?_
  show zEv _ _ _ (14, [some (.ref 62)], [.ref 63, .ref 62]) _ _ _
  cases hf
  exact zEv_ret 2 (fun n => rfl)
def ziRw_66  (I : zI) : Option (zI) :=
  some (zRow I 67 (fun _ => 0))
theorem s_ziRw_66_h66_63  {I : zI} {I' : zI} (hf : ziRw_66 I = some I') (d : Nat) (hd : 1 ≤ d) : zCall d 59 [.ref 66, .int 35] (zSa66, zRa63, I) (none) (zSa67, zRa64, I') := by
  obtain ⟨d, rfl⟩ : ∃ e, d = e + 1 := ⟨d - 1, by omega⟩
  rw [ziRw_66] at hf
  show zEv _ _ _ (0, [some (.ref 66), some (.int 35)], []) _ _ _
  refine zEv_gd 7 (c := ¬ (35 : Int32) < 0 ∧ Int32.toNatClampNeg 35 ≤ 100000 ∧ zVs 66 [some (.ref 66), some (.int 35)] [.ref 66] = true ∧ zHok (zSa66, zRa63, I) = true) (f1 := (12, [some (.ref 66), some (.int 35)], [.ref 67, .ref 66])) (h1 := (zSa67, zRa63, (zRow I 67 (fun _ => 0)))) (fun n => rfl) ⟨by decide, by decide, rfl, zHk_66_63 _⟩ ?_
  cases hf
  exact zEv_ret 2 (fun n => rfl)
def ziRw_68  (I : zI) : Option (zI) :=
  some (zRow I 69 (fun _ => 0))
theorem s_ziRw_68_h68_65  {I : zI} {I' : zI} (hf : ziRw_68 I = some I') (d : Nat) (hd : 1 ≤ d) : zCall d 59 [.ref 68, .int 8] (zSa68, zRa65, I) (none) (zSa69, zRa66, I') := by
  obtain ⟨d, rfl⟩ : ∃ e, d = e + 1 := ⟨d - 1, by omega⟩
  rw [ziRw_68] at hf
  show zEv _ _ _ (0, [some (.ref 68), some (.int 8)], []) _ _ _
  refine zEv_gd 7 (c := ¬ (8 : Int32) < 0 ∧ Int32.toNatClampNeg 8 ≤ 100000 ∧ zVs 68 [some (.ref 68), some (.int 8)] [.ref 68] = true ∧ zHok (zSa68, zRa65, I) = true) (f1 := (12, [some (.ref 68), some (.int 8)], [.ref 69, .ref 68])) (h1 := (zSa69, zRa65, (zRow I 69 (fun _ => 0)))) (fun n => rfl) ⟨by decide, by decide, rfl, zHk_68_65 _⟩ ?_
  cases hf
  exact zEv_ret 2 (fun n => rfl)
def ziSu_65  (I : zI) : Option (zI) :=
  (ziRw_66 (zRow I 66 (fun _ => 0))).bind fun I69 =>
  (ziRw_68 (zRow I69 68 (fun _ => 0))).bind fun I70 =>
  some I70
theorem s_ziSu_65_h65_63  {I : zI} {I' : zI} (hf : ziSu_65 I = some I') (d : Nat) (hd : 2 ≤ d) : zCall d 64 [.ref 65] (zSa65, zRa63, I) (none) (zSa69, zRa67, I') := by
  obtain ⟨d, rfl⟩ : ∃ e, d = e + 1 := ⟨d - 1, by omega⟩
  rw [ziSu_65] at hf
  show zEv _ _ _ (0, [some (.ref 65)], []) _ _ _
  refine zEv_gd 4 (c := zVs 65 [some (.ref 65)] [.ref 65] = true ∧ zHok (zSa65, zRa63, I) = true) (f1 := (8, [some (.ref 65)], [.ref 66, .ref 65])) (h1 := (zSa66, zRa63, (zRow I 66 (fun _ => 0)))) (fun n => rfl) ⟨rfl, zHk_65_63 _⟩ ?_
  obtain ⟨I69, hx, hf⟩ := Option.bind_eq_some_iff.mp hf
  refine zEv_calln 3 (N := 59) (vs := [.ref 66, .int 35]) (v1 := none) (h1 := (zSa67, zRa64, I69)) (L := [some (.ref 65)]) (rest := [.ref 66, .ref 65]) (pc := 14) (fun n => rfl) (s_ziRw_66_h66_63 hx d (by omega)) rfl rfl ?_
  show zEv _ _ _ (14, [some (.ref 65)], [.ref 66, .ref 65]) _ _ _
  refine zEv_gd 3 (c := zVs 67 [some (.ref 65)] [.ref 65] = true ∧ zHok (zSa67, zRa65, I69) = true) (f1 := (21, [some (.ref 65)], [.ref 68, .ref 65])) (h1 := (zSa68, zRa65, (zRow I69 68 (fun _ => 0)))) (fun n => rfl) ⟨rfl, zHk_67_65 _⟩ ?_
  obtain ⟨I70, hx, hf⟩ := Option.bind_eq_some_iff.mp hf
  refine zEv_calln 3 (N := 59) (vs := [.ref 68, .int 8]) (v1 := none) (h1 := (zSa69, zRa66, I70)) (L := [some (.ref 65)]) (rest := [.ref 68, .ref 65]) (pc := 27) (fun n => rfl) (s_ziRw_68_h68_65 hx d (by omega)) rfl rfl ?_
  show zEv _ _ _ (27, [some (.ref 65)], [.ref 68, .ref 65]) _ _ _
  cases hf
  exact zEv_ret 2 (fun n => rfl)
def ziRw_71  (I : zI) : Option (zI) :=
  some (zRow I 72 (fun _ => 0))
theorem s_ziRw_71_h71_68  {I : zI} {I' : zI} (hf : ziRw_71 I = some I') (d : Nat) (hd : 1 ≤ d) : zCall d 59 [.ref 71, .int 41] (zSa71, zRa68, I) (none) (zSa72, zRa69, I') := by
  obtain ⟨d, rfl⟩ : ∃ e, d = e + 1 := ⟨d - 1, by omega⟩
  rw [ziRw_71] at hf
  show zEv _ _ _ (0, [some (.ref 71), some (.int 41)], []) _ _ _
  refine zEv_gd 7 (c := ¬ (41 : Int32) < 0 ∧ Int32.toNatClampNeg 41 ≤ 100000 ∧ zVs 71 [some (.ref 71), some (.int 41)] [.ref 71] = true ∧ zHok (zSa71, zRa68, I) = true) (f1 := (12, [some (.ref 71), some (.int 41)], [.ref 72, .ref 71])) (h1 := (zSa72, zRa68, (zRow I 72 (fun _ => 0)))) (fun n => rfl) ⟨by decide, by decide, rfl, zHk_71_68 _⟩ ?_
  cases hf
  exact zEv_ret 2 (fun n => rfl)
theorem s_Rw_at_71_h72_70  {a0 : Int32} {I : zI} {r : Int32} (hf : Rw_at_71 a0 I = some r) (d : Nat) (hd : 0 ≤ d) : zCall d 60 [.ref 71, .int a0] (zSa72, zRa70, I) (some (.int r)) (zSa72, zRa70, I) := by
  rw [Rw_at_71] at hf
  show zEv _ _ _ (0, [some (.ref 71), some (.int a0)], []) _ _ _
  refine zEv_if 2 (c := a0 < 0) (f1 := (22, [some (.ref 71), some (.int a0)], [])) (f2 := (4, [some (.ref 71), some (.int a0)], [])) (h1 := (zSa72, zRa70, I)) (fun n => rfl) (fun hc => ?_) (fun hc => ?_)
  · rw [if_pos hc] at hf
    cases hf
    exact zEv_ret 2 (fun n => rfl)
  · rw [if_neg hc] at hf
    refine zEv_if 5 (c := 41 ≤ a0) (f1 := (22, [some (.ref 71), some (.int a0)], [])) (f2 := (13, [some (.ref 71), some (.int a0)], [])) (h1 := (zSa72, zRa70, I)) (fun n => rfl) (fun hc => ?_) (fun hc => ?_)
    · rw [if_pos hc] at hf
      cases hf
      exact zEv_ret 2 (fun n => rfl)
    · rw [if_neg hc] at hf
      obtain ⟨hc, hf⟩ := zGd_inv hf
      refine zEv_gd 4 (c := zIn a0 41) (f1 := (19, [some (.ref 71), some (.int a0)], [.int (I 72 (Int32.toNatClampNeg a0))])) (h1 := (zSa72, zRa70, I)) (fun n => rfl) hc ?_
      cases hf
      exact zEv_ret 2 (fun n => rfl)
theorem s_Tu_worthBehind_h72_70  {a0 : Int32} {a1 : Int32} {I : zI} {r : Int32} (hf : Tu_worthBehind a0 a1 I = some r) (d : Nat) (hd : 1 ≤ d) : zCall d 70 [.ref 70, .int a0, .int a1] (zSa72, zRa70, I) (some (.int r)) (zSa72, zRa70, I) := by
  obtain ⟨d, rfl⟩ : ∃ e, d = e + 1 := ⟨d - 1, by omega⟩
  rw [Tu_worthBehind] at hf
  show zEv _ _ _ (0, [some (.ref 70), some (.int a0), some (.int a1)], []) _ _ _
  obtain ⟨x73, hx, hf⟩ := Option.bind_eq_some_iff.mp hf
  refine zEv_call 8 (N := 60) (vs := [.ref 71, .int (if 0 < (a1 - 1) then (a1 - 1) else 0)]) (v1 := some (.int x73)) (h1 := (zSa72, zRa70, I)) (L := [some (.ref 70), some (.int a0), some (.int a1)]) (rest := []) (pc := 14) (fun n => rfl) (s_Rw_at_71_h72_70 hx d (by omega)) rfl rfl ?_
  show zEv _ _ _ (14, [some (.ref 70), some (.int a0), some (.int a1)], [.int x73]) _ _ _
  obtain ⟨x74, hx, hf⟩ := Option.bind_eq_some_iff.mp hf
  refine zEv_call 10 (N := 60) (vs := [.ref 71, .int (if 0 < ((a0 - a1) - 2) then ((a0 - a1) - 2) else 0)]) (v1 := some (.int x74)) (h1 := (zSa72, zRa70, I)) (L := [some (.ref 70), some (.int a0), some (.int a1)]) (rest := [.int x73]) (pc := 30) (fun n => rfl) (s_Rw_at_71_h72_70 hx d (by omega)) rfl rfl ?_
  show zEv _ _ _ (30, [some (.ref 70), some (.int a0), some (.int a1)], [.int x74, .int x73]) _ _ _
  cases hf
  exact zEv_ret 2 (fun n => rfl)
theorem s_In_ntz_h72_70  {a0 : Int32} {I : zI} {r : Int32} (hf : In_ntz a0 I = some r) (d : Nat) (hd : 0 ≤ d) : zCall d 195 [.int a0] (zSa72, zRa70, I) (some (.int r)) (zSa72, zRa70, I) := by
  rw [In_ntz] at hf
  show zEv _ _ _ (0, [some (.int a0), none], []) _ _ _
  refine zEv_if 10 (c := 0 < ((a0 ^^^ (-1)) &&& (a0 - 1))) (f1 := (17, [some (.int ((a0 ^^^ (-1)) &&& (a0 - 1))), none], [])) (f2 := (12, [some (.int ((a0 ^^^ (-1)) &&& (a0 - 1))), none], [])) (h1 := (zSa72, zRa70, I)) (fun n => rfl) (fun hc => ?_) (fun hc => ?_)
  · rw [if_pos hc] at hf
    obtain ⟨⟨x78, x79⟩, hm_m77, hf⟩ := Option.bind_eq_some_iff.mp hf
    dsimp only at hf
    have hJ_m77 : zEv none (d) 195 (34, [some (.int x78), some (.int x79)], []) ((zSa72, zRa70, I)) (some (.int r)) (zSa72, zRa70, I) := by
      obtain ⟨⟨x81, x82⟩, hm_m80, hf⟩ := Option.bind_eq_some_iff.mp hf
      dsimp only at hf
      have hJ_m80 : zEv none (d) 195 (49, [some (.int x81), some (.int x82)], []) ((zSa72, zRa70, I)) (some (.int r)) (zSa72, zRa70, I) := by
        obtain ⟨⟨x84, x85⟩, hm_m83, hf⟩ := Option.bind_eq_some_iff.mp hf
        dsimp only at hf
        have hJ_m83 : zEv none (d) 195 (62, [some (.int x84), some (.int x85)], []) ((zSa72, zRa70, I)) (some (.int r)) (zSa72, zRa70, I) := by
          obtain ⟨⟨x87, x88⟩, hm_m86, hf⟩ := Option.bind_eq_some_iff.mp hf
          dsimp only at hf
          have hJ_m86 : zEv none (d) 195 (74, [some (.int x87), some (.int x88)], []) ((zSa72, zRa70, I)) (some (.int r)) (zSa72, zRa70, I) := by
            cases hf
            exact zEv_ret 6 (fun n => rfl)
          clear hf
          refine zEv_if 3 (c := x84 ≤ 4) (f1 := (74, [some (.int x84), some (.int x85)], [])) (f2 := (67, [some (.int x84), some (.int x85)], [])) (h1 := (zSa72, zRa70, I)) (fun n => rfl) (fun hc => ?_) (fun hc => ?_)
          · rw [if_pos hc] at hm_m86
            have hq0 := Option.some.inj hm_m86
            obtain ⟨he0, hq1⟩ := Prod.mk.inj hq0
            subst he0
            subst hq1
            exact zEv_weak (L := [some (.int x84), some (.int x85)]) (by exact ⟨rfl, ⟨rfl, trivial⟩⟩) hJ_m86
          · rw [if_neg hc] at hm_m86
            have hq0 := Option.some.inj hm_m86
            obtain ⟨he0, hq1⟩ := Prod.mk.inj hq0
            subst he0
            subst hq1
            refine zEv_go 5 (f1 := (74, [some (.int (zUsh x84 2)), some (.int (x85 + 2))], [])) (h1 := (zSa72, zRa70, I)) (fun n => rfl) ?_
            exact zEv_weak (L := [some (.int (zUsh x84 2)), some (.int (x85 + 2))]) (by exact ⟨rfl, ⟨rfl, trivial⟩⟩) hJ_m86
        clear hf
        refine zEv_if 3 (c := x81 ≤ 16) (f1 := (62, [some (.int x81), some (.int x82)], [])) (f2 := (55, [some (.int x81), some (.int x82)], [])) (h1 := (zSa72, zRa70, I)) (fun n => rfl) (fun hc => ?_) (fun hc => ?_)
        · rw [if_pos hc] at hm_m83
          have hq0 := Option.some.inj hm_m83
          obtain ⟨he0, hq1⟩ := Prod.mk.inj hq0
          subst he0
          subst hq1
          exact zEv_weak (L := [some (.int x81), some (.int x82)]) (by exact ⟨rfl, ⟨rfl, trivial⟩⟩) hJ_m83
        · rw [if_neg hc] at hm_m83
          have hq0 := Option.some.inj hm_m83
          obtain ⟨he0, hq1⟩ := Prod.mk.inj hq0
          subst he0
          subst hq1
          refine zEv_go 5 (f1 := (62, [some (.int (zUsh x81 4)), some (.int (x82 + 4))], [])) (h1 := (zSa72, zRa70, I)) (fun n => rfl) ?_
          exact zEv_weak (L := [some (.int (zUsh x81 4)), some (.int (x82 + 4))]) (by exact ⟨rfl, ⟨rfl, trivial⟩⟩) hJ_m83
      clear hf
      refine zEv_if 3 (c := x78 ≤ 256) (f1 := (49, [some (.int x78), some (.int x79)], [])) (f2 := (41, [some (.int x78), some (.int x79)], [])) (h1 := (zSa72, zRa70, I)) (fun n => rfl) (fun hc => ?_) (fun hc => ?_)
      · rw [if_pos hc] at hm_m80
        have hq0 := Option.some.inj hm_m80
        obtain ⟨he0, hq1⟩ := Prod.mk.inj hq0
        subst he0
        subst hq1
        exact zEv_weak (L := [some (.int x78), some (.int x79)]) (by exact ⟨rfl, ⟨rfl, trivial⟩⟩) hJ_m80
      · rw [if_neg hc] at hm_m80
        have hq0 := Option.some.inj hm_m80
        obtain ⟨he0, hq1⟩ := Prod.mk.inj hq0
        subst he0
        subst hq1
        refine zEv_go 5 (f1 := (49, [some (.int (zUsh x78 8)), some (.int (x79 + 8))], [])) (h1 := (zSa72, zRa70, I)) (fun n => rfl) ?_
        exact zEv_weak (L := [some (.int (zUsh x78 8)), some (.int (x79 + 8))]) (by exact ⟨rfl, ⟨rfl, trivial⟩⟩) hJ_m80
    clear hf
    refine zEv_if 5 (c := ((a0 ^^^ (-1)) &&& (a0 - 1)) ≤ 65536) (f1 := (34, [some (.int ((a0 ^^^ (-1)) &&& (a0 - 1))), some (.int 1)], [])) (f2 := (26, [some (.int ((a0 ^^^ (-1)) &&& (a0 - 1))), some (.int 1)], [])) (h1 := (zSa72, zRa70, I)) (fun n => rfl) (fun hc => ?_) (fun hc => ?_)
    · rw [if_pos hc] at hm_m77
      have hq0 := Option.some.inj hm_m77
      obtain ⟨he0, hq1⟩ := Prod.mk.inj hq0
      subst he0
      subst hq1
      exact zEv_weak (L := [some (.int ((a0 ^^^ (-1)) &&& (a0 - 1))), some (.int 1)]) (by exact ⟨rfl, ⟨rfl, trivial⟩⟩) hJ_m77
    · rw [if_neg hc] at hm_m77
      have hq0 := Option.some.inj hm_m77
      obtain ⟨he0, hq1⟩ := Prod.mk.inj hq0
      subst he0
      subst hq1
      refine zEv_go 5 (f1 := (34, [some (.int (zUsh ((a0 ^^^ (-1)) &&& (a0 - 1)) 16)), some (.int (1 + 16))], [])) (h1 := (zSa72, zRa70, I)) (fun n => rfl) ?_
      exact zEv_weak (L := [some (.int (zUsh ((a0 ^^^ (-1)) &&& (a0 - 1)) 16)), some (.int (1 + 16))]) (by exact ⟨rfl, ⟨rfl, trivial⟩⟩) hJ_m77
  · rw [if_neg hc] at hf
    cases hf
    exact zEv_ret 4 (fun n => rfl)
def Lo_ntz  (a0 : Int64) (I : zI) : Option (Int32) :=
  if (Int64.toInt32 a0) = 0 then
    (In_ntz (Int64.toInt32 (zLush a0 32)) I).bind fun x89 =>
    some (32 + x89)
  else
    (In_ntz (Int64.toInt32 a0) I).bind fun x90 =>
    some x90
theorem s_Lo_ntz_h72_70  {a0 : Int64} {I : zI} {r : Int32} (hf : Lo_ntz a0 I = some r) (d : Nat) (hd : 1 ≤ d) : zCall d 197 [.long a0] (zSa72, zRa70, I) (some (.int r)) (zSa72, zRa70, I) := by
  obtain ⟨d, rfl⟩ : ∃ e, d = e + 1 := ⟨d - 1, by omega⟩
  rw [Lo_ntz] at hf
  show zEv _ _ _ (0, [some (.long a0), none, none], []) _ _ _
  refine zEv_if 5 (c := (Int64.toInt32 a0) = 0) (f1 := (7, [some (.long a0), none, some (.int (Int64.toInt32 a0))], [])) (f2 := (21, [some (.long a0), none, some (.int (Int64.toInt32 a0))], [])) (h1 := (zSa72, zRa70, I)) (fun n => rfl) (fun hc => ?_) (fun hc => ?_)
  · rw [if_pos hc] at hf
    obtain ⟨x89, hx, hf⟩ := Option.bind_eq_some_iff.mp hf
    refine zEv_call 6 (N := 195) (vs := [.int (Int64.toInt32 (zLush a0 32))]) (v1 := some (.int x89)) (h1 := (zSa72, zRa70, I)) (L := [some (.long a0), none, some (.int (Int64.toInt32 a0))]) (rest := [.int 32]) (pc := 17) (fun n => rfl) (s_In_ntz_h72_70 hx d (by omega)) rfl rfl ?_
    show zEv _ _ _ (17, [some (.long a0), none, some (.int (Int64.toInt32 a0))], [.int x89, .int 32]) _ _ _
    cases hf
    exact zEv_ret 3 (fun n => rfl)
  · rw [if_neg hc] at hf
    obtain ⟨x90, hx, hf⟩ := Option.bind_eq_some_iff.mp hf
    refine zEv_call 2 (N := 195) (vs := [.int (Int64.toInt32 a0)]) (v1 := some (.int x90)) (h1 := (zSa72, zRa70, I)) (L := [some (.long a0), none, some (.int (Int64.toInt32 a0))]) (rest := []) (pc := 25) (fun n => rfl) (s_In_ntz_h72_70 hx d (by omega)) rfl rfl ?_
    show zEv _ _ _ (25, [some (.long a0), none, some (.int (Int64.toInt32 a0))], [.int x90]) _ _ _
    cases hf
    exact zEv_ret 1 (fun n => rfl)
def Rw_put_71  (a0 : Int32) (a1 : Int32) (I : zI) : Option (zI) :=
  if a0 < 0 then
    some I
  else
    if 41 ≤ a0 then
      some I
    else
      if zIn a0 41 then
        some (zUp I 72 (Int32.toNatClampNeg a0) a1)
      else none
theorem s_Rw_put_71_h72_70  {a0 : Int32} {a1 : Int32} {I : zI} {I' : zI} (hf : Rw_put_71 a0 a1 I = some I') (d : Nat) (hd : 0 ≤ d) : zCall d 61 [.ref 71, .int a0, .int a1] (zSa72, zRa70, I) (none) (zSa72, zRa70, I') := by
  rw [Rw_put_71] at hf
  show zEv _ _ _ (0, [some (.ref 71), some (.int a0), some (.int a1)], []) _ _ _
  refine zEv_if 2 (c := a0 < 0) (f1 := (20, [some (.ref 71), some (.int a0), some (.int a1)], [])) (f2 := (4, [some (.ref 71), some (.int a0), some (.int a1)], [])) (h1 := (zSa72, zRa70, I)) (fun n => rfl) (fun hc => ?_) (fun hc => ?_)
  · rw [if_pos hc] at hf
    cases hf
    exact zEv_ret 1 (fun n => rfl)
  · rw [if_neg hc] at hf
    refine zEv_if 5 (c := 41 ≤ a0) (f1 := (20, [some (.ref 71), some (.int a0), some (.int a1)], [])) (f2 := (13, [some (.ref 71), some (.int a0), some (.int a1)], [])) (h1 := (zSa72, zRa70, I)) (fun n => rfl) (fun hc => ?_) (fun hc => ?_)
    · rw [if_pos hc] at hf
      cases hf
      exact zEv_ret 1 (fun n => rfl)
    · rw [if_neg hc] at hf
      obtain ⟨hc, hf⟩ := zGd_inv hf
      refine zEv_gd 5 (c := zIn a0 41) (f1 := (20, [some (.ref 71), some (.int a0), some (.int a1)], [])) (h1 := (zSa72, zRa70, (zUp I 72 (Int32.toNatClampNeg a0) a1))) (fun n => rfl) hc ?_
      cases hf
      exact zEv_ret 1 (fun n => rfl)
def ziTu_70_L30 : Nat → Int32 → Int64 → Int32 → zI → Option (Int64)
  | 0, _, _, _, _ => none
  | n + 1, v1, v2, v4, I =>
    if v1 ≤ v4 then
      some v2
    else
      (Tu_worthBehind v1 v4 I).bind fun x75 =>
      ziTu_70_L30 n v1 (v2 ||| (zLshl 1 x75)) (v4 + 1) I
theorem s_ziTu_70_h70_68_L30 (d : Nat) (hd : 2 ≤ d) : ∀ (n : Nat) {v1 : Int32} {v2 : Int64} {v4 : Int32} {I : zI} {y2 : Int64} {v : Option Value} {h' : zH}, ziTu_70_L30 n v1 v2 v4 I = some y2 → zEv none d 69 (54, [some (.ref 70), some (.int v1), some (.long y2), none, none], []) (zSa72, zRa70, I) v h' → zEv none d 69 (30, [some (.ref 70), some (.int v1), some (.long v2), none, some (.int v4)], []) (zSa72, zRa70, I) v h' := by
  obtain ⟨d, rfl⟩ : ∃ e, d = e + 1 := ⟨d - 1, by omega⟩
  intro n
  induction n with
  | zero => intros; rename_i hf _; cases hf
  | succ n ih =>
    intro v1 v2 v4 I y2 v h' hf kk
    rw [ziTu_70_L30] at hf
    refine zEv_if 3 (c := v1 ≤ v4) (f1 := (54, [some (.ref 70), some (.int v1), some (.long v2), none, some (.int v4)], [])) (f2 := (36, [some (.ref 70), some (.int v1), some (.long v2), none, some (.int v4)], [])) (h1 := (zSa72, zRa70, I)) (fun n => rfl) (fun hc => ?_) (fun hc => ?_)
    · rw [if_pos hc] at hf
      obtain rfl := Option.some.inj hf
      exact zEv_weak (L := [some (.ref 70), some (.int v1), some (.long v2), none, none]) (by exact ⟨rfl, ⟨rfl, ⟨rfl, ⟨rfl, ⟨rfl, trivial⟩⟩⟩⟩⟩) kk
    · rw [if_neg hc] at hf
      obtain ⟨x75, hx, hf⟩ := Option.bind_eq_some_iff.mp hf
      refine zEv_call 6 (N := 70) (vs := [.ref 70, .int v1, .int v4]) (v1 := some (.int x75)) (h1 := (zSa72, zRa70, I)) (L := [some (.ref 70), some (.int v1), some (.long v2), none, some (.int v4)]) (rest := [.long 1, .long v2]) (pc := 45) (fun n => rfl) (s_Tu_worthBehind_h72_70 hx d (by omega)) rfl rfl ?_
      show zEv _ _ _ (45, [some (.ref 70), some (.int v1), some (.long v2), none, some (.int v4)], [.int x75, .long 1, .long v2]) _ _ _
      refine zEv_go 5 (f1 := (30, [some (.ref 70), some (.int v1), some (.long (v2 ||| (zLshl 1 x75))), none, some (.int (v4 + 1))], [])) (h1 := (zSa72, zRa70, I)) (fun n => rfl) ?_
      refine zEv_weak (L := [some (.ref 70), some (.int v1), some (.long (v2 ||| (zLshl 1 x75))), none, some (.int (v4 + 1))]) (by exact ⟨rfl, ⟨rfl, ⟨rfl, ⟨rfl, ⟨rfl, trivial⟩⟩⟩⟩⟩) ?_
      exact ih hf kk
def ziTu_70_L19 : Nat → Int32 → zI → Option (zI)
  | 0, _, _ => none
  | n + 1, v1, I =>
    if 40 < v1 then
      some I
    else
      (ziTu_70_L30 n v1 0 0 I).bind fun x76 =>
      (Lo_ntz (x76 ^^^ (-1)) I).bind fun x91 =>
      (Rw_put_71 v1 x91 I).bind fun I92 =>
      ziTu_70_L19 n (v1 + 1) I92
theorem s_ziTu_70_h70_68_L19 (d : Nat) (hd : 2 ≤ d) : ∀ (n : Nat) {v1 : Int32} {I : zI}  {I' : zI} {v : Option Value} {h' : zH}, ziTu_70_L19 n v1 I = some I' → zEv none d 69 (76, [some (.ref 70), none, none, none, none], []) (zSa72, zRa70, I') v h' → zEv none d 69 (19, [some (.ref 70), some (.int v1), none, none, none], []) (zSa72, zRa70, I) v h' := by
  obtain ⟨d, rfl⟩ : ∃ e, d = e + 1 := ⟨d - 1, by omega⟩
  intro n
  induction n with
  | zero => intros; rename_i hf _; cases hf
  | succ n ih =>
    intro v1 I I' v h' hf kk
    rw [ziTu_70_L19] at hf
    refine zEv_if 3 (c := 40 < v1) (f1 := (76, [some (.ref 70), some (.int v1), none, none, none], [])) (f2 := (25, [some (.ref 70), some (.int v1), none, none, none], [])) (h1 := (zSa72, zRa70, I)) (fun n => rfl) (fun hc => ?_) (fun hc => ?_)
    · rw [if_pos hc] at hf
      obtain rfl := Option.some.inj hf
      exact zEv_weak (L := [some (.ref 70), none, none, none, none]) (by exact ⟨rfl, ⟨rfl, ⟨rfl, ⟨rfl, ⟨rfl, trivial⟩⟩⟩⟩⟩) kk
    · rw [if_neg hc] at hf
      obtain ⟨x76, hx, hf⟩ := Option.bind_eq_some_iff.mp hf
      refine zEv_go 4 (f1 := (30, [some (.ref 70), some (.int v1), some (.long 0), none, some (.int 0)], [])) (h1 := (zSa72, zRa70, I)) (fun n => rfl) ?_
      refine zEv_weak (L := [some (.ref 70), some (.int v1), some (.long 0), none, some (.int 0)]) (by exact ⟨rfl, ⟨rfl, ⟨rfl, ⟨rfl, ⟨rfl, trivial⟩⟩⟩⟩⟩) (s_ziTu_70_h70_68_L30 (d + 1) (by omega) n hx ?_)
      obtain ⟨x91, hx, hf⟩ := Option.bind_eq_some_iff.mp hf
      refine zEv_call 7 (N := 197) (vs := [.long (x76 ^^^ (-1))]) (v1 := some (.int x91)) (h1 := (zSa72, zRa70, I)) (L := [some (.ref 70), some (.int v1), some (.long x76), none, none]) (rest := [.int v1, .ref 71]) (pc := 67) (fun n => rfl) (s_Lo_ntz_h72_70 hx d (by omega)) rfl rfl ?_
      show zEv _ _ _ (67, [some (.ref 70), some (.int v1), some (.long x76), none, none], [.int x91, .int v1, .ref 71]) _ _ _
      obtain ⟨I92, hx, hf⟩ := Option.bind_eq_some_iff.mp hf
      refine zEv_call 1 (N := 61) (vs := [.ref 71, .int v1, .int x91]) (v1 := none) (h1 := (zSa72, zRa70, I92)) (L := [some (.ref 70), some (.int v1), some (.long x76), none, none]) (rest := []) (pc := 70) (fun n => rfl) (s_Rw_put_71_h72_70 hx d (by omega)) rfl rfl ?_
      show zEv _ _ _ (70, [some (.ref 70), some (.int v1), some (.long x76), none, none], []) _ _ _
      refine zEv_go 2 (f1 := (19, [some (.ref 70), some (.int (v1 + 1)), some (.long x76), none, none], [])) (h1 := (zSa72, zRa70, I92)) (fun n => rfl) ?_
      refine zEv_weak (L := [some (.ref 70), some (.int (v1 + 1)), none, none, none]) (by exact ⟨rfl, ⟨rfl, ⟨rfl, ⟨rfl, ⟨rfl, trivial⟩⟩⟩⟩⟩) ?_
      exact ih hf kk
def ziTu_70 (n : Nat) (I : zI) : Option (zI) :=
  (ziRw_71 (zRow I 71 (fun _ => 0))).bind fun I72 =>
  (ziTu_70_L19 n 1 I72).bind fun I93 =>
  some I93
theorem s_ziTu_70_h70_68 {n : Nat} {I : zI} {I' : zI} (hf : ziTu_70 n I = some I') (d : Nat) (hd : 2 ≤ d) : zCall d 69 [.ref 70] (zSa70, zRa68, I) (none) (zSa72, zRa70, I') := by
  obtain ⟨d, rfl⟩ : ∃ e, d = e + 1 := ⟨d - 1, by omega⟩
  rw [ziTu_70] at hf
  show zEv _ _ _ (0, [some (.ref 70), none, none, none, none], []) _ _ _
  refine zEv_gd 4 (c := zVs 70 [some (.ref 70), none, none, none, none] [.ref 70] = true ∧ zHok (zSa70, zRa68, I) = true) (f1 := (8, [some (.ref 70), none, none, none, none], [.ref 71, .ref 70])) (h1 := (zSa71, zRa68, (zRow I 71 (fun _ => 0)))) (fun n => rfl) ⟨rfl, zHk_70_68 _⟩ ?_
  obtain ⟨I72, hx, hf⟩ := Option.bind_eq_some_iff.mp hf
  refine zEv_calln 3 (N := 59) (vs := [.ref 71, .int 41]) (v1 := none) (h1 := (zSa72, zRa69, I72)) (L := [some (.ref 70), none, none, none, none]) (rest := [.ref 71, .ref 70]) (pc := 14) (fun n => rfl) (s_ziRw_71_h71_68 hx d (by omega)) rfl rfl ?_
  show zEv _ _ _ (14, [some (.ref 70), none, none, none, none], [.ref 71, .ref 70]) _ _ _
  obtain ⟨I93, hx, hf⟩ := Option.bind_eq_some_iff.mp hf
  refine zEv_go 3 (f1 := (19, [some (.ref 70), some (.int 1), none, none, none], [])) (h1 := (zSa72, zRa70, I72)) (fun n => rfl) ?_
  refine zEv_weak (L := [some (.ref 70), some (.int 1), none, none, none]) (by exact ⟨rfl, ⟨rfl, ⟨rfl, ⟨rfl, ⟨rfl, trivial⟩⟩⟩⟩⟩) (s_ziTu_70_h70_68_L19 (d + 1) (by omega) n hx ?_)
  cases hf
  exact zEv_ret 1 (fun n => rfl)
def ziBM_1 (n : Nat) (I : zI) : Option (zI) :=
  (ziGa_2 n (zRow I 2 (fun _ => 0))).bind fun I14 =>
  (ziGa_13 n (zRow I14 13 (fun _ => 0))).bind fun I28 =>
  (ziGa_24 n (zRow I28 24 (fun _ => 0))).bind fun I42 =>
  (ziPa_35 (zRow I42 35 (fun _ => 0))).bind fun I44 =>
  (ziCo_38 n (zRow I44 38 (fun _ => 0))).bind fun I60 =>
  (ziRd_52 (zRow I60 52 (fun _ => 0))).bind fun I64 =>
  (ziWa_59 (zRow I64 59 (fun _ => 0))).bind fun I66 =>
  (ziOd_62 (zRow I66 62 (fun _ => 0))).bind fun I68 =>
  (ziSu_65 (zRow I68 65 (fun _ => 0))).bind fun I71 =>
  (ziTu_70 n (zRow I71 70 (fun _ => 0))).bind fun I94 =>
  some I94
theorem s_ziBM_1_h1_0 {n : Nat} {I : zI} {I' : zI} (hf : ziBM_1 n I = some I') (d : Nat) (hd : 4 ≤ d) : zCall d 78 [.ref 1] (zSa1, zRa0, I) (none) (zSa72, zRa71, I') := by
  obtain ⟨d, rfl⟩ : ∃ e, d = e + 1 := ⟨d - 1, by omega⟩
  rw [ziBM_1] at hf
  show zEv _ _ _ (0, [some (.ref 1)], []) _ _ _
  refine zEv_gd 4 (c := zVs 1 [some (.ref 1)] [.ref 1] = true ∧ zHok (zSa1, zRa0, I) = true) (f1 := (8, [some (.ref 1)], [.ref 2, .ref 1])) (h1 := (zSa2, zRa0, (zRow I 2 (fun _ => 0)))) (fun n => rfl) ⟨rfl, zHk_1_0 _⟩ ?_
  obtain ⟨I14, hx, hf⟩ := Option.bind_eq_some_iff.mp hf
  refine zEv_calln 2 (N := 9) (vs := [.ref 2]) (v1 := none) (h1 := (zSa12, zRa10, I14)) (L := [some (.ref 1)]) (rest := [.ref 2, .ref 1]) (pc := 12) (fun n => rfl) (s_ziGa_2_h2_0 hx d (by omega)) rfl rfl ?_
  show zEv _ _ _ (12, [some (.ref 1)], [.ref 2, .ref 1]) _ _ _
  refine zEv_gd 3 (c := zVs 12 [some (.ref 1)] [.ref 1] = true ∧ zHok (zSa12, zRa11, I14) = true) (f1 := (19, [some (.ref 1)], [.ref 13, .ref 1])) (h1 := (zSa13, zRa11, (zRow I14 13 (fun _ => 0)))) (fun n => rfl) ⟨rfl, zHk_12_11 _⟩ ?_
  obtain ⟨I28, hx, hf⟩ := Option.bind_eq_some_iff.mp hf
  refine zEv_calln 2 (N := 9) (vs := [.ref 13]) (v1 := none) (h1 := (zSa23, zRa21, I28)) (L := [some (.ref 1)]) (rest := [.ref 13, .ref 1]) (pc := 23) (fun n => rfl) (s_ziGa_13_h13_11 hx d (by omega)) rfl rfl ?_
  show zEv _ _ _ (23, [some (.ref 1)], [.ref 13, .ref 1]) _ _ _
  refine zEv_gd 3 (c := zVs 23 [some (.ref 1)] [.ref 1] = true ∧ zHok (zSa23, zRa22, I28) = true) (f1 := (30, [some (.ref 1)], [.ref 24, .ref 1])) (h1 := (zSa24, zRa22, (zRow I28 24 (fun _ => 0)))) (fun n => rfl) ⟨rfl, zHk_23_22 _⟩ ?_
  obtain ⟨I42, hx, hf⟩ := Option.bind_eq_some_iff.mp hf
  refine zEv_calln 2 (N := 9) (vs := [.ref 24]) (v1 := none) (h1 := (zSa34, zRa32, I42)) (L := [some (.ref 1)]) (rest := [.ref 24, .ref 1]) (pc := 34) (fun n => rfl) (s_ziGa_24_h24_22 hx d (by omega)) rfl rfl ?_
  show zEv _ _ _ (34, [some (.ref 1)], [.ref 24, .ref 1]) _ _ _
  refine zEv_gd 3 (c := zVs 34 [some (.ref 1)] [.ref 1] = true ∧ zHok (zSa34, zRa33, I42) = true) (f1 := (41, [some (.ref 1)], [.ref 35, .ref 1])) (h1 := (zSa35, zRa33, (zRow I42 35 (fun _ => 0)))) (fun n => rfl) ⟨rfl, zHk_34_33 _⟩ ?_
  obtain ⟨I44, hx, hf⟩ := Option.bind_eq_some_iff.mp hf
  refine zEv_calln 2 (N := 45) (vs := [.ref 35]) (v1 := none) (h1 := (zSa37, zRa35, I44)) (L := [some (.ref 1)]) (rest := [.ref 35, .ref 1]) (pc := 45) (fun n => rfl) (s_ziPa_35_h35_33 hx d (by omega)) rfl rfl ?_
  show zEv _ _ _ (45, [some (.ref 1)], [.ref 35, .ref 1]) _ _ _
  refine zEv_gd 3 (c := zVs 37 [some (.ref 1)] [.ref 1] = true ∧ zHok (zSa37, zRa36, I44) = true) (f1 := (52, [some (.ref 1)], [.ref 38, .ref 1])) (h1 := (zSa38, zRa36, (zRow I44 38 (fun _ => 0)))) (fun n => rfl) ⟨rfl, zHk_37_36 _⟩ ?_
  obtain ⟨I60, hx, hf⟩ := Option.bind_eq_some_iff.mp hf
  refine zEv_calln 2 (N := 0) (vs := [.ref 38]) (v1 := none) (h1 := (zSa51, zRa49, I60)) (L := [some (.ref 1)]) (rest := [.ref 38, .ref 1]) (pc := 56) (fun n => rfl) (s_ziCo_38_h38_36 hx d (by omega)) rfl rfl ?_
  show zEv _ _ _ (56, [some (.ref 1)], [.ref 38, .ref 1]) _ _ _
  refine zEv_gd 3 (c := zVs 51 [some (.ref 1)] [.ref 1] = true ∧ zHok (zSa51, zRa50, I60) = true) (f1 := (63, [some (.ref 1)], [.ref 52, .ref 1])) (h1 := (zSa52, zRa50, (zRow I60 52 (fun _ => 0)))) (fun n => rfl) ⟨rfl, zHk_51_50 _⟩ ?_
  obtain ⟨I64, hx, hf⟩ := Option.bind_eq_some_iff.mp hf
  refine zEv_calln 2 (N := 54) (vs := [.ref 52]) (v1 := none) (h1 := (zSa58, zRa56, I64)) (L := [some (.ref 1)]) (rest := [.ref 52, .ref 1]) (pc := 67) (fun n => rfl) (s_ziRd_52_h52_50 hx d (by omega)) rfl rfl ?_
  show zEv _ _ _ (67, [some (.ref 1)], [.ref 52, .ref 1]) _ _ _
  refine zEv_gd 3 (c := zVs 58 [some (.ref 1)] [.ref 1] = true ∧ zHok (zSa58, zRa57, I64) = true) (f1 := (74, [some (.ref 1)], [.ref 59, .ref 1])) (h1 := (zSa59, zRa57, (zRow I64 59 (fun _ => 0)))) (fun n => rfl) ⟨rfl, zHk_58_57 _⟩ ?_
  obtain ⟨I66, hx, hf⟩ := Option.bind_eq_some_iff.mp hf
  refine zEv_calln 2 (N := 72) (vs := [.ref 59]) (v1 := none) (h1 := (zSa61, zRa59, I66)) (L := [some (.ref 1)]) (rest := [.ref 59, .ref 1]) (pc := 78) (fun n => rfl) (s_ziWa_59_h59_57 hx d (by omega)) rfl rfl ?_
  show zEv _ _ _ (78, [some (.ref 1)], [.ref 59, .ref 1]) _ _ _
  refine zEv_gd 3 (c := zVs 61 [some (.ref 1)] [.ref 1] = true ∧ zHok (zSa61, zRa60, I66) = true) (f1 := (85, [some (.ref 1)], [.ref 62, .ref 1])) (h1 := (zSa62, zRa60, (zRow I66 62 (fun _ => 0)))) (fun n => rfl) ⟨rfl, zHk_61_60 _⟩ ?_
  obtain ⟨I68, hx, hf⟩ := Option.bind_eq_some_iff.mp hf
  refine zEv_calln 2 (N := 40) (vs := [.ref 62]) (v1 := none) (h1 := (zSa64, zRa62, I68)) (L := [some (.ref 1)]) (rest := [.ref 62, .ref 1]) (pc := 89) (fun n => rfl) (s_ziOd_62_h62_60 hx d (by omega)) rfl rfl ?_
  show zEv _ _ _ (89, [some (.ref 1)], [.ref 62, .ref 1]) _ _ _
  refine zEv_gd 3 (c := zVs 64 [some (.ref 1)] [.ref 1] = true ∧ zHok (zSa64, zRa63, I68) = true) (f1 := (96, [some (.ref 1)], [.ref 65, .ref 1])) (h1 := (zSa65, zRa63, (zRow I68 65 (fun _ => 0)))) (fun n => rfl) ⟨rfl, zHk_64_63 _⟩ ?_
  obtain ⟨I71, hx, hf⟩ := Option.bind_eq_some_iff.mp hf
  refine zEv_calln 2 (N := 64) (vs := [.ref 65]) (v1 := none) (h1 := (zSa69, zRa67, I71)) (L := [some (.ref 1)]) (rest := [.ref 65, .ref 1]) (pc := 100) (fun n => rfl) (s_ziSu_65_h65_63 hx d (by omega)) rfl rfl ?_
  show zEv _ _ _ (100, [some (.ref 1)], [.ref 65, .ref 1]) _ _ _
  refine zEv_gd 3 (c := zVs 69 [some (.ref 1)] [.ref 1] = true ∧ zHok (zSa69, zRa68, I71) = true) (f1 := (107, [some (.ref 1)], [.ref 70, .ref 1])) (h1 := (zSa70, zRa68, (zRow I71 70 (fun _ => 0)))) (fun n => rfl) ⟨rfl, zHk_69_68 _⟩ ?_
  obtain ⟨I94, hx, hf⟩ := Option.bind_eq_some_iff.mp hf
  refine zEv_calln 2 (N := 69) (vs := [.ref 70]) (v1 := none) (h1 := (zSa72, zRa70, I94)) (L := [some (.ref 1)]) (rest := [.ref 70, .ref 1]) (pc := 111) (fun n => rfl) (s_ziTu_70_h70_68 hx d (by omega)) rfl rfl ?_
  show zEv _ _ _ (111, [some (.ref 1)], [.ref 70, .ref 1]) _ _ _
  cases hf
  exact zEv_ret 2 (fun n => rfl)
def ziMo_73_L212 : Nat → Int32 → zI → Option (zI)
  | 0, _, _ => none
  | n + 1, v1, I =>
    if 10 ≤ v1 then
      some I
    else
      if zIn v1 10 then
        if zIn v1 10 then
          ziMo_73_L212 n (v1 + 1) (zUp (zUp I 77 (Int32.toNatClampNeg v1) (-6)) 78 (Int32.toNatClampNeg v1) (-6))
        else none
      else none
theorem s_ziMo_73_h73_71_L212 (d : Nat) (hd : 1 ≤ d) : ∀ (n : Nat) {v1 : Int32} {I : zI}  {I' : zI} {v : Option Value} {h' : zH}, ziMo_73_L212 n v1 I = some I' → zEv none d 116 (240, [some (.ref 73), none], []) (zSa95, zRa93, I') v h' → zEv none d 116 (212, [some (.ref 73), some (.int v1)], []) (zSa95, zRa93, I) v h' := by
  obtain ⟨d, rfl⟩ : ∃ e, d = e + 1 := ⟨d - 1, by omega⟩
  intro n
  induction n with
  | zero => intros; rename_i hf _; cases hf
  | succ n ih =>
    intro v1 I I' v h' hf kk
    rw [ziMo_73_L212] at hf
    refine zEv_if 3 (c := 10 ≤ v1) (f1 := (240, [some (.ref 73), some (.int v1)], [])) (f2 := (218, [some (.ref 73), some (.int v1)], [])) (h1 := (zSa95, zRa93, I)) (fun n => rfl) (fun hc => ?_) (fun hc => ?_)
    · rw [if_pos hc] at hf
      obtain rfl := Option.some.inj hf
      exact zEv_weak (L := [some (.ref 73), none]) (by exact ⟨rfl, ⟨rfl, trivial⟩⟩) kk
    · rw [if_neg hc] at hf
      obtain ⟨hc, hf⟩ := zGd_inv hf
      refine zEv_gd 5 (c := zIn v1 10) (f1 := (226, [some (.ref 73), some (.int v1)], [])) (h1 := (zSa95, zRa93, (zUp I 77 (Int32.toNatClampNeg v1) (-6)))) (fun n => rfl) hc ?_
      obtain ⟨hc, hf⟩ := zGd_inv hf
      refine zEv_gd 5 (c := zIn v1 10) (f1 := (234, [some (.ref 73), some (.int v1)], [])) (h1 := (zSa95, zRa93, (zUp (zUp I 77 (Int32.toNatClampNeg v1) (-6)) 78 (Int32.toNatClampNeg v1) (-6)))) (fun n => rfl) hc ?_
      refine zEv_go 2 (f1 := (212, [some (.ref 73), some (.int (v1 + 1))], [])) (h1 := (zSa95, zRa93, (zUp (zUp I 77 (Int32.toNatClampNeg v1) (-6)) 78 (Int32.toNatClampNeg v1) (-6)))) (fun n => rfl) ?_
      refine zEv_weak (L := [some (.ref 73), some (.int (v1 + 1))]) (by exact ⟨rfl, ⟨rfl, trivial⟩⟩) ?_
      exact ih hf kk
def ziMo_73_L184 : Nat → Int32 → zI → Option (zI)
  | 0, _, _ => none
  | n + 1, v1, I =>
    if 8 ≤ v1 then
      some I
    else
      if zIn v1 8 then
        if zIn v1 8 then
          ziMo_73_L184 n (v1 + 1) (zUp (zUp I 75 (Int32.toNatClampNeg v1) v1) 76 (Int32.toNatClampNeg v1) v1)
        else none
      else none
theorem s_ziMo_73_h73_71_L184 (d : Nat) (hd : 1 ≤ d) : ∀ (n : Nat) {v1 : Int32} {I : zI}  {I' : zI} {v : Option Value} {h' : zH}, ziMo_73_L184 n v1 I = some I' → zEv none d 116 (210, [some (.ref 73), none], []) (zSa95, zRa93, I') v h' → zEv none d 116 (184, [some (.ref 73), some (.int v1)], []) (zSa95, zRa93, I) v h' := by
  obtain ⟨d, rfl⟩ : ∃ e, d = e + 1 := ⟨d - 1, by omega⟩
  intro n
  induction n with
  | zero => intros; rename_i hf _; cases hf
  | succ n ih =>
    intro v1 I I' v h' hf kk
    rw [ziMo_73_L184] at hf
    refine zEv_if 3 (c := 8 ≤ v1) (f1 := (210, [some (.ref 73), some (.int v1)], [])) (f2 := (190, [some (.ref 73), some (.int v1)], [])) (h1 := (zSa95, zRa93, I)) (fun n => rfl) (fun hc => ?_) (fun hc => ?_)
    · rw [if_pos hc] at hf
      obtain rfl := Option.some.inj hf
      exact zEv_weak (L := [some (.ref 73), none]) (by exact ⟨rfl, ⟨rfl, trivial⟩⟩) kk
    · rw [if_neg hc] at hf
      obtain ⟨hc, hf⟩ := zGd_inv hf
      refine zEv_gd 5 (c := zIn v1 8) (f1 := (197, [some (.ref 73), some (.int v1)], [])) (h1 := (zSa95, zRa93, (zUp I 75 (Int32.toNatClampNeg v1) v1))) (fun n => rfl) hc ?_
      obtain ⟨hc, hf⟩ := zGd_inv hf
      refine zEv_gd 5 (c := zIn v1 8) (f1 := (204, [some (.ref 73), some (.int v1)], [])) (h1 := (zSa95, zRa93, (zUp (zUp I 75 (Int32.toNatClampNeg v1) v1) 76 (Int32.toNatClampNeg v1) v1))) (fun n => rfl) hc ?_
      refine zEv_go 2 (f1 := (184, [some (.ref 73), some (.int (v1 + 1))], [])) (h1 := (zSa95, zRa93, (zUp (zUp I 75 (Int32.toNatClampNeg v1) v1) 76 (Int32.toNatClampNeg v1) v1))) (fun n => rfl) ?_
      refine zEv_weak (L := [some (.ref 73), some (.int (v1 + 1))]) (by exact ⟨rfl, ⟨rfl, trivial⟩⟩) ?_
      exact ih hf kk
def ziMo_73 (n : Nat) (I : zI) : Option (zI) :=
  (ziMo_73_L184 n 0 (zRow (zRow (zRow (zRow (zRow (zRow (zRow (zRow (zRow (zRow (zRow (zRow (zRow (zRow (zRow (zRow (zRow (zRow (zRow (zRow (zRow (zRow I 74 (fun _ => 0)) 75 (fun _ => 0)) 76 (fun _ => 0)) 77 (fun _ => 0)) 78 (fun _ => 0)) 79 (fun _ => 0)) 80 (fun _ => 0)) 81 (fun _ => 0)) 82 (fun _ => 0)) 83 (fun _ => 0)) 84 (fun _ => 0)) 85 (fun _ => 0)) 86 (fun _ => 0)) 87 (fun _ => 0)) 88 (fun _ => 0)) 89 (fun _ => 0)) 90 (fun _ => 0)) 91 (fun _ => 0)) 92 (fun _ => 0)) 93 (fun _ => 0)) 94 (fun _ => 0)) 95 (fun _ => 0))).bind fun I95 =>
  (ziMo_73_L212 n 0 I95).bind fun I96 =>
  some I96
theorem s_ziMo_73_h73_71 {n : Nat} {I : zI} {I' : zI} (hf : ziMo_73 n I = some I') (d : Nat) (hd : 1 ≤ d) : zCall d 116 [.ref 73] (zSa73, zRa71, I) (none) (zSa95, zRa93, I') := by
  obtain ⟨d, rfl⟩ : ∃ e, d = e + 1 := ⟨d - 1, by omega⟩
  rw [ziMo_73] at hf
  show zEv _ _ _ (0, [some (.ref 73), none], []) _ _ _
  refine zEv_gd 5 (c := ¬ (10 : Int32) < 0 ∧ Int32.toNatClampNeg 10 ≤ 100000 ∧ zVs 73 [some (.ref 73), none] [.ref 73] = true ∧ zHok (zSa73, zRa71, I) = true) (f1 := (9, [some (.ref 73), none], [.ref 74, .ref 73])) (h1 := (zSa74, zRa71, (zRow I 74 (fun _ => 0)))) (fun n => rfl) ⟨by decide, by decide, rfl, zHk_73_71 _⟩ ?_
  refine zEv_gd 4 (c := ¬ (8 : Int32) < 0 ∧ Int32.toNatClampNeg 8 ≤ 100000 ∧ zVs 74 [some (.ref 73), none] [.ref 73] = true ∧ zHok (zSa74, zRa72, (zRow I 74 (fun _ => 0))) = true) (f1 := (17, [some (.ref 73), none], [.ref 75, .ref 73])) (h1 := (zSa75, zRa72, (zRow (zRow I 74 (fun _ => 0)) 75 (fun _ => 0)))) (fun n => rfl) ⟨by decide, by decide, rfl, zHk_74_72 _⟩ ?_
  refine zEv_gd 4 (c := ¬ (8 : Int32) < 0 ∧ Int32.toNatClampNeg 8 ≤ 100000 ∧ zVs 75 [some (.ref 73), none] [.ref 73] = true ∧ zHok (zSa75, zRa73, (zRow (zRow I 74 (fun _ => 0)) 75 (fun _ => 0))) = true) (f1 := (25, [some (.ref 73), none], [.ref 76, .ref 73])) (h1 := (zSa76, zRa73, (zRow (zRow (zRow I 74 (fun _ => 0)) 75 (fun _ => 0)) 76 (fun _ => 0)))) (fun n => rfl) ⟨by decide, by decide, rfl, zHk_75_73 _⟩ ?_
  refine zEv_gd 4 (c := ¬ (10 : Int32) < 0 ∧ Int32.toNatClampNeg 10 ≤ 100000 ∧ zVs 76 [some (.ref 73), none] [.ref 73] = true ∧ zHok (zSa76, zRa74, (zRow (zRow (zRow I 74 (fun _ => 0)) 75 (fun _ => 0)) 76 (fun _ => 0))) = true) (f1 := (33, [some (.ref 73), none], [.ref 77, .ref 73])) (h1 := (zSa77, zRa74, (zRow (zRow (zRow (zRow I 74 (fun _ => 0)) 75 (fun _ => 0)) 76 (fun _ => 0)) 77 (fun _ => 0)))) (fun n => rfl) ⟨by decide, by decide, rfl, zHk_76_74 _⟩ ?_
  refine zEv_gd 4 (c := ¬ (10 : Int32) < 0 ∧ Int32.toNatClampNeg 10 ≤ 100000 ∧ zVs 77 [some (.ref 73), none] [.ref 73] = true ∧ zHok (zSa77, zRa75, (zRow (zRow (zRow (zRow I 74 (fun _ => 0)) 75 (fun _ => 0)) 76 (fun _ => 0)) 77 (fun _ => 0))) = true) (f1 := (41, [some (.ref 73), none], [.ref 78, .ref 73])) (h1 := (zSa78, zRa75, (zRow (zRow (zRow (zRow (zRow I 74 (fun _ => 0)) 75 (fun _ => 0)) 76 (fun _ => 0)) 77 (fun _ => 0)) 78 (fun _ => 0)))) (fun n => rfl) ⟨by decide, by decide, rfl, zHk_77_75 _⟩ ?_
  refine zEv_gd 4 (c := ¬ (8 : Int32) < 0 ∧ Int32.toNatClampNeg 8 ≤ 100000 ∧ zVs 78 [some (.ref 73), none] [.ref 73] = true ∧ zHok (zSa78, zRa76, (zRow (zRow (zRow (zRow (zRow I 74 (fun _ => 0)) 75 (fun _ => 0)) 76 (fun _ => 0)) 77 (fun _ => 0)) 78 (fun _ => 0))) = true) (f1 := (49, [some (.ref 73), none], [.ref 79, .ref 73])) (h1 := (zSa79, zRa76, (zRow (zRow (zRow (zRow (zRow (zRow I 74 (fun _ => 0)) 75 (fun _ => 0)) 76 (fun _ => 0)) 77 (fun _ => 0)) 78 (fun _ => 0)) 79 (fun _ => 0)))) (fun n => rfl) ⟨by decide, by decide, rfl, zHk_78_76 _⟩ ?_
  refine zEv_gd 4 (c := ¬ (8 : Int32) < 0 ∧ Int32.toNatClampNeg 8 ≤ 100000 ∧ zVs 79 [some (.ref 73), none] [.ref 73] = true ∧ zHok (zSa79, zRa77, (zRow (zRow (zRow (zRow (zRow (zRow I 74 (fun _ => 0)) 75 (fun _ => 0)) 76 (fun _ => 0)) 77 (fun _ => 0)) 78 (fun _ => 0)) 79 (fun _ => 0))) = true) (f1 := (57, [some (.ref 73), none], [.ref 80, .ref 73])) (h1 := (zSa80, zRa77, (zRow (zRow (zRow (zRow (zRow (zRow (zRow I 74 (fun _ => 0)) 75 (fun _ => 0)) 76 (fun _ => 0)) 77 (fun _ => 0)) 78 (fun _ => 0)) 79 (fun _ => 0)) 80 (fun _ => 0)))) (fun n => rfl) ⟨by decide, by decide, rfl, zHk_79_77 _⟩ ?_
  refine zEv_gd 4 (c := ¬ (8 : Int32) < 0 ∧ Int32.toNatClampNeg 8 ≤ 100000 ∧ zVs 80 [some (.ref 73), none] [.ref 73] = true ∧ zHok (zSa80, zRa78, (zRow (zRow (zRow (zRow (zRow (zRow (zRow I 74 (fun _ => 0)) 75 (fun _ => 0)) 76 (fun _ => 0)) 77 (fun _ => 0)) 78 (fun _ => 0)) 79 (fun _ => 0)) 80 (fun _ => 0))) = true) (f1 := (65, [some (.ref 73), none], [.ref 81, .ref 73])) (h1 := (zSa81, zRa78, (zRow (zRow (zRow (zRow (zRow (zRow (zRow (zRow I 74 (fun _ => 0)) 75 (fun _ => 0)) 76 (fun _ => 0)) 77 (fun _ => 0)) 78 (fun _ => 0)) 79 (fun _ => 0)) 80 (fun _ => 0)) 81 (fun _ => 0)))) (fun n => rfl) ⟨by decide, by decide, rfl, zHk_80_78 _⟩ ?_
  refine zEv_gd 4 (c := ¬ (60 : Int32) < 0 ∧ Int32.toNatClampNeg 60 ≤ 100000 ∧ zVs 81 [some (.ref 73), none] [.ref 73] = true ∧ zHok (zSa81, zRa79, (zRow (zRow (zRow (zRow (zRow (zRow (zRow (zRow I 74 (fun _ => 0)) 75 (fun _ => 0)) 76 (fun _ => 0)) 77 (fun _ => 0)) 78 (fun _ => 0)) 79 (fun _ => 0)) 80 (fun _ => 0)) 81 (fun _ => 0))) = true) (f1 := (73, [some (.ref 73), none], [.ref 82, .ref 73])) (h1 := (zSa82, zRa79, (zRow (zRow (zRow (zRow (zRow (zRow (zRow (zRow (zRow I 74 (fun _ => 0)) 75 (fun _ => 0)) 76 (fun _ => 0)) 77 (fun _ => 0)) 78 (fun _ => 0)) 79 (fun _ => 0)) 80 (fun _ => 0)) 81 (fun _ => 0)) 82 (fun _ => 0)))) (fun n => rfl) ⟨by decide, by decide, rfl, zHk_81_79 _⟩ ?_
  refine zEv_gd 4 (c := ¬ (60 : Int32) < 0 ∧ Int32.toNatClampNeg 60 ≤ 100000 ∧ zVs 82 [some (.ref 73), none] [.ref 73] = true ∧ zHok (zSa82, zRa80, (zRow (zRow (zRow (zRow (zRow (zRow (zRow (zRow (zRow I 74 (fun _ => 0)) 75 (fun _ => 0)) 76 (fun _ => 0)) 77 (fun _ => 0)) 78 (fun _ => 0)) 79 (fun _ => 0)) 80 (fun _ => 0)) 81 (fun _ => 0)) 82 (fun _ => 0))) = true) (f1 := (81, [some (.ref 73), none], [.ref 83, .ref 73])) (h1 := (zSa83, zRa80, (zRow (zRow (zRow (zRow (zRow (zRow (zRow (zRow (zRow (zRow I 74 (fun _ => 0)) 75 (fun _ => 0)) 76 (fun _ => 0)) 77 (fun _ => 0)) 78 (fun _ => 0)) 79 (fun _ => 0)) 80 (fun _ => 0)) 81 (fun _ => 0)) 82 (fun _ => 0)) 83 (fun _ => 0)))) (fun n => rfl) ⟨by decide, by decide, rfl, zHk_82_80 _⟩ ?_
  refine zEv_gd 4 (c := ¬ (60 : Int32) < 0 ∧ Int32.toNatClampNeg 60 ≤ 100000 ∧ zVs 83 [some (.ref 73), none] [.ref 73] = true ∧ zHok (zSa83, zRa81, (zRow (zRow (zRow (zRow (zRow (zRow (zRow (zRow (zRow (zRow I 74 (fun _ => 0)) 75 (fun _ => 0)) 76 (fun _ => 0)) 77 (fun _ => 0)) 78 (fun _ => 0)) 79 (fun _ => 0)) 80 (fun _ => 0)) 81 (fun _ => 0)) 82 (fun _ => 0)) 83 (fun _ => 0))) = true) (f1 := (89, [some (.ref 73), none], [.ref 84, .ref 73])) (h1 := (zSa84, zRa81, (zRow (zRow (zRow (zRow (zRow (zRow (zRow (zRow (zRow (zRow (zRow I 74 (fun _ => 0)) 75 (fun _ => 0)) 76 (fun _ => 0)) 77 (fun _ => 0)) 78 (fun _ => 0)) 79 (fun _ => 0)) 80 (fun _ => 0)) 81 (fun _ => 0)) 82 (fun _ => 0)) 83 (fun _ => 0)) 84 (fun _ => 0)))) (fun n => rfl) ⟨by decide, by decide, rfl, zHk_83_81 _⟩ ?_
  refine zEv_gd 4 (c := ¬ (60 : Int32) < 0 ∧ Int32.toNatClampNeg 60 ≤ 100000 ∧ zVs 84 [some (.ref 73), none] [.ref 73] = true ∧ zHok (zSa84, zRa82, (zRow (zRow (zRow (zRow (zRow (zRow (zRow (zRow (zRow (zRow (zRow I 74 (fun _ => 0)) 75 (fun _ => 0)) 76 (fun _ => 0)) 77 (fun _ => 0)) 78 (fun _ => 0)) 79 (fun _ => 0)) 80 (fun _ => 0)) 81 (fun _ => 0)) 82 (fun _ => 0)) 83 (fun _ => 0)) 84 (fun _ => 0))) = true) (f1 := (97, [some (.ref 73), none], [.ref 85, .ref 73])) (h1 := (zSa85, zRa82, (zRow (zRow (zRow (zRow (zRow (zRow (zRow (zRow (zRow (zRow (zRow (zRow I 74 (fun _ => 0)) 75 (fun _ => 0)) 76 (fun _ => 0)) 77 (fun _ => 0)) 78 (fun _ => 0)) 79 (fun _ => 0)) 80 (fun _ => 0)) 81 (fun _ => 0)) 82 (fun _ => 0)) 83 (fun _ => 0)) 84 (fun _ => 0)) 85 (fun _ => 0)))) (fun n => rfl) ⟨by decide, by decide, rfl, zHk_84_82 _⟩ ?_
  refine zEv_gd 4 (c := ¬ (12 : Int32) < 0 ∧ Int32.toNatClampNeg 12 ≤ 100000 ∧ zVs 85 [some (.ref 73), none] [.ref 73] = true ∧ zHok (zSa85, zRa83, (zRow (zRow (zRow (zRow (zRow (zRow (zRow (zRow (zRow (zRow (zRow (zRow I 74 (fun _ => 0)) 75 (fun _ => 0)) 76 (fun _ => 0)) 77 (fun _ => 0)) 78 (fun _ => 0)) 79 (fun _ => 0)) 80 (fun _ => 0)) 81 (fun _ => 0)) 82 (fun _ => 0)) 83 (fun _ => 0)) 84 (fun _ => 0)) 85 (fun _ => 0))) = true) (f1 := (105, [some (.ref 73), none], [.ref 86, .ref 73])) (h1 := (zSa86, zRa83, (zRow (zRow (zRow (zRow (zRow (zRow (zRow (zRow (zRow (zRow (zRow (zRow (zRow I 74 (fun _ => 0)) 75 (fun _ => 0)) 76 (fun _ => 0)) 77 (fun _ => 0)) 78 (fun _ => 0)) 79 (fun _ => 0)) 80 (fun _ => 0)) 81 (fun _ => 0)) 82 (fun _ => 0)) 83 (fun _ => 0)) 84 (fun _ => 0)) 85 (fun _ => 0)) 86 (fun _ => 0)))) (fun n => rfl) ⟨by decide, by decide, rfl, zHk_85_83 _⟩ ?_
  refine zEv_gd 4 (c := ¬ (38 : Int32) < 0 ∧ Int32.toNatClampNeg 38 ≤ 100000 ∧ zVs 86 [some (.ref 73), none] [.ref 73] = true ∧ zHok (zSa86, zRa84, (zRow (zRow (zRow (zRow (zRow (zRow (zRow (zRow (zRow (zRow (zRow (zRow (zRow I 74 (fun _ => 0)) 75 (fun _ => 0)) 76 (fun _ => 0)) 77 (fun _ => 0)) 78 (fun _ => 0)) 79 (fun _ => 0)) 80 (fun _ => 0)) 81 (fun _ => 0)) 82 (fun _ => 0)) 83 (fun _ => 0)) 84 (fun _ => 0)) 85 (fun _ => 0)) 86 (fun _ => 0))) = true) (f1 := (113, [some (.ref 73), none], [.ref 87, .ref 73])) (h1 := (zSa87, zRa84, (zRow (zRow (zRow (zRow (zRow (zRow (zRow (zRow (zRow (zRow (zRow (zRow (zRow (zRow I 74 (fun _ => 0)) 75 (fun _ => 0)) 76 (fun _ => 0)) 77 (fun _ => 0)) 78 (fun _ => 0)) 79 (fun _ => 0)) 80 (fun _ => 0)) 81 (fun _ => 0)) 82 (fun _ => 0)) 83 (fun _ => 0)) 84 (fun _ => 0)) 85 (fun _ => 0)) 86 (fun _ => 0)) 87 (fun _ => 0)))) (fun n => rfl) ⟨by decide, by decide, rfl, zHk_86_84 _⟩ ?_
  refine zEv_gd 4 (c := ¬ (10240 : Int32) < 0 ∧ Int32.toNatClampNeg 10240 ≤ 100000 ∧ zVs 87 [some (.ref 73), none] [.ref 73] = true ∧ zHok (zSa87, zRa85, (zRow (zRow (zRow (zRow (zRow (zRow (zRow (zRow (zRow (zRow (zRow (zRow (zRow (zRow I 74 (fun _ => 0)) 75 (fun _ => 0)) 76 (fun _ => 0)) 77 (fun _ => 0)) 78 (fun _ => 0)) 79 (fun _ => 0)) 80 (fun _ => 0)) 81 (fun _ => 0)) 82 (fun _ => 0)) 83 (fun _ => 0)) 84 (fun _ => 0)) 85 (fun _ => 0)) 86 (fun _ => 0)) 87 (fun _ => 0))) = true) (f1 := (122, [some (.ref 73), none], [.ref 88, .ref 73])) (h1 := (zSa88, zRa85, (zRow (zRow (zRow (zRow (zRow (zRow (zRow (zRow (zRow (zRow (zRow (zRow (zRow (zRow (zRow I 74 (fun _ => 0)) 75 (fun _ => 0)) 76 (fun _ => 0)) 77 (fun _ => 0)) 78 (fun _ => 0)) 79 (fun _ => 0)) 80 (fun _ => 0)) 81 (fun _ => 0)) 82 (fun _ => 0)) 83 (fun _ => 0)) 84 (fun _ => 0)) 85 (fun _ => 0)) 86 (fun _ => 0)) 87 (fun _ => 0)) 88 (fun _ => 0)))) (fun n => rfl) ⟨by decide, by decide, rfl, zHk_87_85 _⟩ ?_
  refine zEv_gd 4 (c := ¬ (100 : Int32) < 0 ∧ Int32.toNatClampNeg 100 ≤ 100000 ∧ zVs 88 [some (.ref 73), none] [.ref 73] = true ∧ zHok (zSa88, zRa86, (zRow (zRow (zRow (zRow (zRow (zRow (zRow (zRow (zRow (zRow (zRow (zRow (zRow (zRow (zRow I 74 (fun _ => 0)) 75 (fun _ => 0)) 76 (fun _ => 0)) 77 (fun _ => 0)) 78 (fun _ => 0)) 79 (fun _ => 0)) 80 (fun _ => 0)) 81 (fun _ => 0)) 82 (fun _ => 0)) 83 (fun _ => 0)) 84 (fun _ => 0)) 85 (fun _ => 0)) 86 (fun _ => 0)) 87 (fun _ => 0)) 88 (fun _ => 0))) = true) (f1 := (130, [some (.ref 73), none], [.ref 89, .ref 73])) (h1 := (zSa89, zRa86, (zRow (zRow (zRow (zRow (zRow (zRow (zRow (zRow (zRow (zRow (zRow (zRow (zRow (zRow (zRow (zRow I 74 (fun _ => 0)) 75 (fun _ => 0)) 76 (fun _ => 0)) 77 (fun _ => 0)) 78 (fun _ => 0)) 79 (fun _ => 0)) 80 (fun _ => 0)) 81 (fun _ => 0)) 82 (fun _ => 0)) 83 (fun _ => 0)) 84 (fun _ => 0)) 85 (fun _ => 0)) 86 (fun _ => 0)) 87 (fun _ => 0)) 88 (fun _ => 0)) 89 (fun _ => 0)))) (fun n => rfl) ⟨by decide, by decide, rfl, zHk_88_86 _⟩ ?_
  refine zEv_gd 4 (c := ¬ (7 : Int32) < 0 ∧ Int32.toNatClampNeg 7 ≤ 100000 ∧ zVs 89 [some (.ref 73), none] [.ref 73] = true ∧ zHok (zSa89, zRa87, (zRow (zRow (zRow (zRow (zRow (zRow (zRow (zRow (zRow (zRow (zRow (zRow (zRow (zRow (zRow (zRow I 74 (fun _ => 0)) 75 (fun _ => 0)) 76 (fun _ => 0)) 77 (fun _ => 0)) 78 (fun _ => 0)) 79 (fun _ => 0)) 80 (fun _ => 0)) 81 (fun _ => 0)) 82 (fun _ => 0)) 83 (fun _ => 0)) 84 (fun _ => 0)) 85 (fun _ => 0)) 86 (fun _ => 0)) 87 (fun _ => 0)) 88 (fun _ => 0)) 89 (fun _ => 0))) = true) (f1 := (138, [some (.ref 73), none], [.ref 90, .ref 73])) (h1 := (zSa90, zRa87, (zRow (zRow (zRow (zRow (zRow (zRow (zRow (zRow (zRow (zRow (zRow (zRow (zRow (zRow (zRow (zRow (zRow I 74 (fun _ => 0)) 75 (fun _ => 0)) 76 (fun _ => 0)) 77 (fun _ => 0)) 78 (fun _ => 0)) 79 (fun _ => 0)) 80 (fun _ => 0)) 81 (fun _ => 0)) 82 (fun _ => 0)) 83 (fun _ => 0)) 84 (fun _ => 0)) 85 (fun _ => 0)) 86 (fun _ => 0)) 87 (fun _ => 0)) 88 (fun _ => 0)) 89 (fun _ => 0)) 90 (fun _ => 0)))) (fun n => rfl) ⟨by decide, by decide, rfl, zHk_89_87 _⟩ ?_
  refine zEv_gd 4 (c := ¬ (8 : Int32) < 0 ∧ Int32.toNatClampNeg 8 ≤ 100000 ∧ zVs 90 [some (.ref 73), none] [.ref 73] = true ∧ zHok (zSa90, zRa88, (zRow (zRow (zRow (zRow (zRow (zRow (zRow (zRow (zRow (zRow (zRow (zRow (zRow (zRow (zRow (zRow (zRow I 74 (fun _ => 0)) 75 (fun _ => 0)) 76 (fun _ => 0)) 77 (fun _ => 0)) 78 (fun _ => 0)) 79 (fun _ => 0)) 80 (fun _ => 0)) 81 (fun _ => 0)) 82 (fun _ => 0)) 83 (fun _ => 0)) 84 (fun _ => 0)) 85 (fun _ => 0)) 86 (fun _ => 0)) 87 (fun _ => 0)) 88 (fun _ => 0)) 89 (fun _ => 0)) 90 (fun _ => 0))) = true) (f1 := (146, [some (.ref 73), none], [.ref 91, .ref 73])) (h1 := (zSa91, zRa88, (zRow (zRow (zRow (zRow (zRow (zRow (zRow (zRow (zRow (zRow (zRow (zRow (zRow (zRow (zRow (zRow (zRow (zRow I 74 (fun _ => 0)) 75 (fun _ => 0)) 76 (fun _ => 0)) 77 (fun _ => 0)) 78 (fun _ => 0)) 79 (fun _ => 0)) 80 (fun _ => 0)) 81 (fun _ => 0)) 82 (fun _ => 0)) 83 (fun _ => 0)) 84 (fun _ => 0)) 85 (fun _ => 0)) 86 (fun _ => 0)) 87 (fun _ => 0)) 88 (fun _ => 0)) 89 (fun _ => 0)) 90 (fun _ => 0)) 91 (fun _ => 0)))) (fun n => rfl) ⟨by decide, by decide, rfl, zHk_90_88 _⟩ ?_
  refine zEv_gd 4 (c := ¬ (41 : Int32) < 0 ∧ Int32.toNatClampNeg 41 ≤ 100000 ∧ zVs 91 [some (.ref 73), none] [.ref 73] = true ∧ zHok (zSa91, zRa89, (zRow (zRow (zRow (zRow (zRow (zRow (zRow (zRow (zRow (zRow (zRow (zRow (zRow (zRow (zRow (zRow (zRow (zRow I 74 (fun _ => 0)) 75 (fun _ => 0)) 76 (fun _ => 0)) 77 (fun _ => 0)) 78 (fun _ => 0)) 79 (fun _ => 0)) 80 (fun _ => 0)) 81 (fun _ => 0)) 82 (fun _ => 0)) 83 (fun _ => 0)) 84 (fun _ => 0)) 85 (fun _ => 0)) 86 (fun _ => 0)) 87 (fun _ => 0)) 88 (fun _ => 0)) 89 (fun _ => 0)) 90 (fun _ => 0)) 91 (fun _ => 0))) = true) (f1 := (154, [some (.ref 73), none], [.ref 92, .ref 73])) (h1 := (zSa92, zRa89, (zRow (zRow (zRow (zRow (zRow (zRow (zRow (zRow (zRow (zRow (zRow (zRow (zRow (zRow (zRow (zRow (zRow (zRow (zRow I 74 (fun _ => 0)) 75 (fun _ => 0)) 76 (fun _ => 0)) 77 (fun _ => 0)) 78 (fun _ => 0)) 79 (fun _ => 0)) 80 (fun _ => 0)) 81 (fun _ => 0)) 82 (fun _ => 0)) 83 (fun _ => 0)) 84 (fun _ => 0)) 85 (fun _ => 0)) 86 (fun _ => 0)) 87 (fun _ => 0)) 88 (fun _ => 0)) 89 (fun _ => 0)) 90 (fun _ => 0)) 91 (fun _ => 0)) 92 (fun _ => 0)))) (fun n => rfl) ⟨by decide, by decide, rfl, zHk_91_89 _⟩ ?_
  refine zEv_gd 4 (c := ¬ (128 : Int32) < 0 ∧ Int32.toNatClampNeg 128 ≤ 100000 ∧ zVs 92 [some (.ref 73), none] [.ref 73] = true ∧ zHok (zSa92, zRa90, (zRow (zRow (zRow (zRow (zRow (zRow (zRow (zRow (zRow (zRow (zRow (zRow (zRow (zRow (zRow (zRow (zRow (zRow (zRow I 74 (fun _ => 0)) 75 (fun _ => 0)) 76 (fun _ => 0)) 77 (fun _ => 0)) 78 (fun _ => 0)) 79 (fun _ => 0)) 80 (fun _ => 0)) 81 (fun _ => 0)) 82 (fun _ => 0)) 83 (fun _ => 0)) 84 (fun _ => 0)) 85 (fun _ => 0)) 86 (fun _ => 0)) 87 (fun _ => 0)) 88 (fun _ => 0)) 89 (fun _ => 0)) 90 (fun _ => 0)) 91 (fun _ => 0)) 92 (fun _ => 0))) = true) (f1 := (163, [some (.ref 73), none], [.ref 93, .ref 73])) (h1 := (zSa93, zRa90, (zRow (zRow (zRow (zRow (zRow (zRow (zRow (zRow (zRow (zRow (zRow (zRow (zRow (zRow (zRow (zRow (zRow (zRow (zRow (zRow I 74 (fun _ => 0)) 75 (fun _ => 0)) 76 (fun _ => 0)) 77 (fun _ => 0)) 78 (fun _ => 0)) 79 (fun _ => 0)) 80 (fun _ => 0)) 81 (fun _ => 0)) 82 (fun _ => 0)) 83 (fun _ => 0)) 84 (fun _ => 0)) 85 (fun _ => 0)) 86 (fun _ => 0)) 87 (fun _ => 0)) 88 (fun _ => 0)) 89 (fun _ => 0)) 90 (fun _ => 0)) 91 (fun _ => 0)) 92 (fun _ => 0)) 93 (fun _ => 0)))) (fun n => rfl) ⟨by decide, by decide, rfl, zHk_92_90 _⟩ ?_
  refine zEv_gd 4 (c := ¬ (200 : Int32) < 0 ∧ Int32.toNatClampNeg 200 ≤ 100000 ∧ zVs 93 [some (.ref 73), none] [.ref 73] = true ∧ zHok (zSa93, zRa91, (zRow (zRow (zRow (zRow (zRow (zRow (zRow (zRow (zRow (zRow (zRow (zRow (zRow (zRow (zRow (zRow (zRow (zRow (zRow (zRow I 74 (fun _ => 0)) 75 (fun _ => 0)) 76 (fun _ => 0)) 77 (fun _ => 0)) 78 (fun _ => 0)) 79 (fun _ => 0)) 80 (fun _ => 0)) 81 (fun _ => 0)) 82 (fun _ => 0)) 83 (fun _ => 0)) 84 (fun _ => 0)) 85 (fun _ => 0)) 86 (fun _ => 0)) 87 (fun _ => 0)) 88 (fun _ => 0)) 89 (fun _ => 0)) 90 (fun _ => 0)) 91 (fun _ => 0)) 92 (fun _ => 0)) 93 (fun _ => 0))) = true) (f1 := (172, [some (.ref 73), none], [.ref 94, .ref 73])) (h1 := (zSa94, zRa91, (zRow (zRow (zRow (zRow (zRow (zRow (zRow (zRow (zRow (zRow (zRow (zRow (zRow (zRow (zRow (zRow (zRow (zRow (zRow (zRow (zRow I 74 (fun _ => 0)) 75 (fun _ => 0)) 76 (fun _ => 0)) 77 (fun _ => 0)) 78 (fun _ => 0)) 79 (fun _ => 0)) 80 (fun _ => 0)) 81 (fun _ => 0)) 82 (fun _ => 0)) 83 (fun _ => 0)) 84 (fun _ => 0)) 85 (fun _ => 0)) 86 (fun _ => 0)) 87 (fun _ => 0)) 88 (fun _ => 0)) 89 (fun _ => 0)) 90 (fun _ => 0)) 91 (fun _ => 0)) 92 (fun _ => 0)) 93 (fun _ => 0)) 94 (fun _ => 0)))) (fun n => rfl) ⟨by decide, by decide, rfl, zHk_93_91 _⟩ ?_
  refine zEv_gd 4 (c := ¬ (2 : Int32) < 0 ∧ Int32.toNatClampNeg 2 ≤ 100000 ∧ zVs 94 [some (.ref 73), none] [.ref 73] = true ∧ zHok (zSa94, zRa92, (zRow (zRow (zRow (zRow (zRow (zRow (zRow (zRow (zRow (zRow (zRow (zRow (zRow (zRow (zRow (zRow (zRow (zRow (zRow (zRow (zRow I 74 (fun _ => 0)) 75 (fun _ => 0)) 76 (fun _ => 0)) 77 (fun _ => 0)) 78 (fun _ => 0)) 79 (fun _ => 0)) 80 (fun _ => 0)) 81 (fun _ => 0)) 82 (fun _ => 0)) 83 (fun _ => 0)) 84 (fun _ => 0)) 85 (fun _ => 0)) 86 (fun _ => 0)) 87 (fun _ => 0)) 88 (fun _ => 0)) 89 (fun _ => 0)) 90 (fun _ => 0)) 91 (fun _ => 0)) 92 (fun _ => 0)) 93 (fun _ => 0)) 94 (fun _ => 0))) = true) (f1 := (179, [some (.ref 73), none], [.ref 95, .ref 73])) (h1 := (zSa95, zRa92, (zRow (zRow (zRow (zRow (zRow (zRow (zRow (zRow (zRow (zRow (zRow (zRow (zRow (zRow (zRow (zRow (zRow (zRow (zRow (zRow (zRow (zRow I 74 (fun _ => 0)) 75 (fun _ => 0)) 76 (fun _ => 0)) 77 (fun _ => 0)) 78 (fun _ => 0)) 79 (fun _ => 0)) 80 (fun _ => 0)) 81 (fun _ => 0)) 82 (fun _ => 0)) 83 (fun _ => 0)) 84 (fun _ => 0)) 85 (fun _ => 0)) 86 (fun _ => 0)) 87 (fun _ => 0)) 88 (fun _ => 0)) 89 (fun _ => 0)) 90 (fun _ => 0)) 91 (fun _ => 0)) 92 (fun _ => 0)) 93 (fun _ => 0)) 94 (fun _ => 0)) 95 (fun _ => 0)))) (fun n => rfl) ⟨by decide, by decide, rfl, zHk_94_92 _⟩ ?_
  obtain ⟨I95, hx, hf⟩ := Option.bind_eq_some_iff.mp hf
  refine zEv_go 3 (f1 := (184, [some (.ref 73), some (.int 0)], [])) (h1 := (zSa95, zRa93, (zRow (zRow (zRow (zRow (zRow (zRow (zRow (zRow (zRow (zRow (zRow (zRow (zRow (zRow (zRow (zRow (zRow (zRow (zRow (zRow (zRow (zRow I 74 (fun _ => 0)) 75 (fun _ => 0)) 76 (fun _ => 0)) 77 (fun _ => 0)) 78 (fun _ => 0)) 79 (fun _ => 0)) 80 (fun _ => 0)) 81 (fun _ => 0)) 82 (fun _ => 0)) 83 (fun _ => 0)) 84 (fun _ => 0)) 85 (fun _ => 0)) 86 (fun _ => 0)) 87 (fun _ => 0)) 88 (fun _ => 0)) 89 (fun _ => 0)) 90 (fun _ => 0)) 91 (fun _ => 0)) 92 (fun _ => 0)) 93 (fun _ => 0)) 94 (fun _ => 0)) 95 (fun _ => 0)))) (fun n => rfl) ?_
  refine zEv_weak (L := [some (.ref 73), some (.int 0)]) (by exact ⟨rfl, ⟨rfl, trivial⟩⟩) (s_ziMo_73_h73_71_L184 (d + 1) (by omega) n hx ?_)
  obtain ⟨I96, hx, hf⟩ := Option.bind_eq_some_iff.mp hf
  refine zEv_go 2 (f1 := (212, [some (.ref 73), some (.int 0)], [])) (h1 := (zSa95, zRa93, I95)) (fun n => rfl) ?_
  refine zEv_weak (L := [some (.ref 73), some (.int 0)]) (by exact ⟨rfl, ⟨rfl, trivial⟩⟩) (s_ziMo_73_h73_71_L212 (d + 1) (by omega) n hx ?_)
  cases hf
  exact zEv_ret 1 (fun n => rfl)
