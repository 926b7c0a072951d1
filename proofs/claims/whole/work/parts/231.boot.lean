set_option maxRecDepth 100000
def ziRw_3  (I : zI) : Option (zI) :=
  some (zRow I 4 (fun _ => 0))
theorem s_ziRw_3_h3_0  {I : zI} {I' : zI} (hf : ziRw_3 I = some I') (d : Nat) (hd : 1 ≤ d) : zCall d 59 [.ref 3, .int 10] (zSa3, zRa0, I) (none) (zSa4, zRa1, I') := by
  obtain ⟨d, rfl⟩ : ∃ e, d = e + 1 := ⟨d - 1, by omega⟩
  rw [ziRw_3] at hf
  show zEv _ _ _ (0, [some (.ref 3), some (.int 10)], []) _ _ _
  refine zEv_gd 7 (c := ¬ (10 : Int32) < 0 ∧ Int32.toNatClampNeg 10 ≤ 100000 ∧ zVs 3 [some (.ref 3), some (.int 10)] [.ref 3] = true ∧ zHok (zSa3, zRa0, I) = true) (f1 := (12, [some (.ref 3), some (.int 10)], [.ref 4, .ref 3])) (h1 := (zSa4, zRa0, (zRow I 4 (fun _ => 0)))) (fun n => rfl) ⟨by decide, by decide, rfl, zHk_3_0 _⟩ ?_
  cases hf
  exact zEv_ret 2 (fun n => rfl)
def ziRw_5  (I : zI) : Option (zI) :=
  some (zRow I 6 (fun _ => 0))
theorem s_ziRw_5_h5_2  {I : zI} {I' : zI} (hf : ziRw_5 I = some I') (d : Nat) (hd : 1 ≤ d) : zCall d 59 [.ref 5, .int 8] (zSa5, zRa2, I) (none) (zSa6, zRa3, I') := by
  obtain ⟨d, rfl⟩ : ∃ e, d = e + 1 := ⟨d - 1, by omega⟩
  rw [ziRw_5] at hf
  show zEv _ _ _ (0, [some (.ref 5), some (.int 8)], []) _ _ _
  refine zEv_gd 7 (c := ¬ (8 : Int32) < 0 ∧ Int32.toNatClampNeg 8 ≤ 100000 ∧ zVs 5 [some (.ref 5), some (.int 8)] [.ref 5] = true ∧ zHok (zSa5, zRa2, I) = true) (f1 := (12, [some (.ref 5), some (.int 8)], [.ref 6, .ref 5])) (h1 := (zSa6, zRa2, (zRow I 6 (fun _ => 0)))) (fun n => rfl) ⟨by decide, by decide, rfl, zHk_5_2 _⟩ ?_
  cases hf
  exact zEv_ret 2 (fun n => rfl)
def ziRw_7  (I : zI) : Option (zI) :=
  some (zRow I 8 (fun _ => 0))
theorem s_ziRw_7_h7_4  {I : zI} {I' : zI} (hf : ziRw_7 I = some I') (d : Nat) (hd : 1 ≤ d) : zCall d 59 [.ref 7, .int 12] (zSa7, zRa4, I) (none) (zSa8, zRa5, I') := by
  obtain ⟨d, rfl⟩ : ∃ e, d = e + 1 := ⟨d - 1, by omega⟩
  rw [ziRw_7] at hf
  show zEv _ _ _ (0, [some (.ref 7), some (.int 12)], []) _ _ _
  refine zEv_gd 7 (c := ¬ (12 : Int32) < 0 ∧ Int32.toNatClampNeg 12 ≤ 100000 ∧ zVs 7 [some (.ref 7), some (.int 12)] [.ref 7] = true ∧ zHok (zSa7, zRa4, I) = true) (f1 := (12, [some (.ref 7), some (.int 12)], [.ref 8, .ref 7])) (h1 := (zSa8, zRa4, (zRow I 8 (fun _ => 0)))) (fun n => rfl) ⟨by decide, by decide, rfl, zHk_7_4 _⟩ ?_
  cases hf
  exact zEv_ret 2 (fun n => rfl)
def ziRw_9  (I : zI) : Option (zI) :=
  some (zRow I 10 (fun _ => 0))
theorem s_ziRw_9_h9_6  {I : zI} {I' : zI} (hf : ziRw_9 I = some I') (d : Nat) (hd : 1 ≤ d) : zCall d 59 [.ref 9, .int 12] (zSa9, zRa6, I) (none) (zSa10, zRa7, I') := by
  obtain ⟨d, rfl⟩ : ∃ e, d = e + 1 := ⟨d - 1, by omega⟩
  rw [ziRw_9] at hf
  show zEv _ _ _ (0, [some (.ref 9), some (.int 12)], []) _ _ _
  refine zEv_gd 7 (c := ¬ (12 : Int32) < 0 ∧ Int32.toNatClampNeg 12 ≤ 100000 ∧ zVs 9 [some (.ref 9), some (.int 12)] [.ref 9] = true ∧ zHok (zSa9, zRa6, I) = true) (f1 := (12, [some (.ref 9), some (.int 12)], [.ref 10, .ref 9])) (h1 := (zSa10, zRa6, (zRow I 10 (fun _ => 0)))) (fun n => rfl) ⟨by decide, by decide, rfl, zHk_9_6 _⟩ ?_
  cases hf
  exact zEv_ret 2 (fun n => rfl)
def ziRw_11  (I : zI) : Option (zI) :=
  some (zRow I 12 (fun _ => 0))
theorem s_ziRw_11_h11_8  {I : zI} {I' : zI} (hf : ziRw_11 I = some I') (d : Nat) (hd : 1 ≤ d) : zCall d 59 [.ref 11, .int 8] (zSa11, zRa8, I) (none) (zSa12, zRa9, I') := by
  obtain ⟨d, rfl⟩ : ∃ e, d = e + 1 := ⟨d - 1, by omega⟩
  rw [ziRw_11] at hf
  show zEv _ _ _ (0, [some (.ref 11), some (.int 8)], []) _ _ _
  refine zEv_gd 7 (c := ¬ (8 : Int32) < 0 ∧ Int32.toNatClampNeg 8 ≤ 100000 ∧ zVs 11 [some (.ref 11), some (.int 8)] [.ref 11] = true ∧ zHok (zSa11, zRa8, I) = true) (f1 := (12, [some (.ref 11), some (.int 8)], [.ref 12, .ref 11])) (h1 := (zSa12, zRa8, (zRow I 12 (fun _ => 0)))) (fun n => rfl) ⟨by decide, by decide, rfl, zHk_11_8 _⟩ ?_
  cases hf
  exact zEv_ret 2 (fun n => rfl)
theorem s_Rw_put_5_h12_10  {a0 : Int32} {a1 : Int32} {I : zI} {I' : zI} (hf : Rw_put_5 a0 a1 I = some I') (d : Nat) (hd : 0 ≤ d) : zCall d 61 [.ref 5, .int a0, .int a1] (zSa12, zRa10, I) (none) (zSa12, zRa10, I') := by
  rw [Rw_put_5] at hf
  show zEv _ _ _ (0, [some (.ref 5), some (.int a0), some (.int a1)], []) _ _ _
  refine zEv_if 2 (c := a0 < 0) (f1 := (20, [some (.ref 5), some (.int a0), some (.int a1)], [])) (f2 := (4, [some (.ref 5), some (.int a0), some (.int a1)], [])) (h1 := (zSa12, zRa10, I)) (fun n => rfl) (fun hc => ?_) (fun hc => ?_)
  · rw [if_pos hc] at hf
    cases hf
    exact zEv_ret 1 (fun n => rfl)
  · rw [if_neg hc] at hf
    refine zEv_if 5 (c := 8 ≤ a0) (f1 := (20, [some (.ref 5), some (.int a0), some (.int a1)], [])) (f2 := (13, [some (.ref 5), some (.int a0), some (.int a1)], [])) (h1 := (zSa12, zRa10, I)) (fun n => rfl) (fun hc => ?_) (fun hc => ?_)
    · rw [if_pos hc] at hf
      cases hf
      exact zEv_ret 1 (fun n => rfl)
    · rw [if_neg hc] at hf
      obtain ⟨hc, hf⟩ := zGd_inv hf
      refine zEv_gd 5 (c := zIn a0 8) (f1 := (20, [some (.ref 5), some (.int a0), some (.int a1)], [])) (h1 := (zSa12, zRa10, (zUp I 6 (Int32.toNatClampNeg a0) a1))) (fun n => rfl) hc ?_
      cases hf
      exact zEv_ret 1 (fun n => rfl)
theorem s_BM_isWithin_h12_10  {a0 : Int32} {a1 : Int32} {a2 : Int32} {I : zI} {r : Int32} (hf : BM_isWithin a0 a1 a2 I = some r) (d : Nat) (hd : 0 ≤ d) : zCall d 109 [.int a0, .int a1, .int a2] (zSa12, zRa10, I) (some (.int r)) (zSa12, zRa10, I) := by
  rw [BM_isWithin] at hf
  show zEv _ _ _ (0, [some (.int a0), some (.int a1), some (.int a2)], []) _ _ _
  refine zEv_if 3 (c := a0 < a1) (f1 := (14, [some (.int a0), some (.int a1), some (.int a2)], [])) (f2 := (5, [some (.int a0), some (.int a1), some (.int a2)], [])) (h1 := (zSa12, zRa10, I)) (fun n => rfl) (fun hc => ?_) (fun hc => ?_)
  · rw [if_pos hc] at hf
    cases hf
    exact zEv_ret 2 (fun n => rfl)
  · rw [if_neg hc] at hf
    refine zEv_if 3 (c := a2 < a0) (f1 := (14, [some (.int a0), some (.int a1), some (.int a2)], [])) (f2 := (10, [some (.int a0), some (.int a1), some (.int a2)], [])) (h1 := (zSa12, zRa10, I)) (fun n => rfl) (fun hc => ?_) (fun hc => ?_)
    · rw [if_pos hc] at hf
      cases hf
      exact zEv_ret 2 (fun n => rfl)
    · rw [if_neg hc] at hf
      cases hf
      exact zEv_ret 3 (fun n => rfl)
theorem s_BM_isOne_h12_10  {a0 : Int32} {I : zI} {r : Int32} (hf : BM_isOne a0 I = some r) (d : Nat) (hd : 1 ≤ d) : zCall d 111 [.int a0] (zSa12, zRa10, I) (some (.int r)) (zSa12, zRa10, I) := by
  obtain ⟨d, rfl⟩ : ∃ e, d = e + 1 := ⟨d - 1, by omega⟩
  rw [BM_isOne] at hf
  show zEv _ _ _ (0, [some (.int a0)], []) _ _ _
  obtain ⟨x8, hx, hf⟩ := Option.bind_eq_some_iff.mp hf
  refine zEv_call 4 (N := 109) (vs := [.int a0, .int 0, .int 7]) (v1 := some (.int x8)) (h1 := (zSa12, zRa10, I)) (L := [some (.int a0)]) (rest := []) (pc := 7) (fun n => rfl) (s_BM_isWithin_h12_10 hx d (by omega)) rfl rfl ?_
  show zEv _ _ _ (7, [some (.int a0)], [.int x8]) _ _ _
  obtain ⟨hc, hf⟩ := zGd_inv hf
  cases hf
  exact zEv_rt hc 1 (fun n => rfl)
theorem s_Rw_put_7_h12_10  {a0 : Int32} {a1 : Int32} {I : zI} {I' : zI} (hf : Rw_put_7 a0 a1 I = some I') (d : Nat) (hd : 0 ≤ d) : zCall d 61 [.ref 7, .int a0, .int a1] (zSa12, zRa10, I) (none) (zSa12, zRa10, I') := by
  rw [Rw_put_7] at hf
  show zEv _ _ _ (0, [some (.ref 7), some (.int a0), some (.int a1)], []) _ _ _
  refine zEv_if 2 (c := a0 < 0) (f1 := (20, [some (.ref 7), some (.int a0), some (.int a1)], [])) (f2 := (4, [some (.ref 7), some (.int a0), some (.int a1)], [])) (h1 := (zSa12, zRa10, I)) (fun n => rfl) (fun hc => ?_) (fun hc => ?_)
  · rw [if_pos hc] at hf
    cases hf
    exact zEv_ret 1 (fun n => rfl)
  · rw [if_neg hc] at hf
    refine zEv_if 5 (c := 12 ≤ a0) (f1 := (20, [some (.ref 7), some (.int a0), some (.int a1)], [])) (f2 := (13, [some (.ref 7), some (.int a0), some (.int a1)], [])) (h1 := (zSa12, zRa10, I)) (fun n => rfl) (fun hc => ?_) (fun hc => ?_)
    · rw [if_pos hc] at hf
      cases hf
      exact zEv_ret 1 (fun n => rfl)
    · rw [if_neg hc] at hf
      obtain ⟨hc, hf⟩ := zGd_inv hf
      refine zEv_gd 5 (c := zIn a0 12) (f1 := (20, [some (.ref 7), some (.int a0), some (.int a1)], [])) (h1 := (zSa12, zRa10, (zUp I 8 (Int32.toNatClampNeg a0) a1))) (fun n => rfl) hc ?_
      cases hf
      exact zEv_ret 1 (fun n => rfl)
def ziGa_2_L94 : Nat → Int32 → zI → Option (zI)
  | 0, _, _ => none
  | n + 1, v1, I =>
    if 12 ≤ v1 then
      some I
    else
      (BM_isOne v1 I).bind fun x9 =>
      (
        if x9 = 0 then
          some (-6)
        else
          some v1 : Option (Int32)).bind fun x11 =>
      (Rw_put_7 v1 x11 I).bind fun I12 =>
      ziGa_2_L94 n (v1 + 1) I12
theorem s_ziGa_2_h2_0_L94 (d : Nat) (hd : 2 ≤ d) : ∀ (n : Nat) {v1 : Int32} {I : zI}  {I' : zI} {v : Option Value} {h' : zH}, ziGa_2_L94 n v1 I = some I' → zEv none d 9 (127, [some (.ref 2), none], []) (zSa12, zRa10, I') v h' → zEv none d 9 (94, [some (.ref 2), some (.int v1)], []) (zSa12, zRa10, I) v h' := by
  obtain ⟨d, rfl⟩ : ∃ e, d = e + 1 := ⟨d - 1, by omega⟩
  intro n
  induction n with
  | zero => intros; rename_i hf _; cases hf
  | succ n ih =>
    intro v1 I I' v h' hf kk
    rw [ziGa_2_L94] at hf
    refine zEv_if 3 (c := 12 ≤ v1) (f1 := (127, [some (.ref 2), some (.int v1)], [])) (f2 := (100, [some (.ref 2), some (.int v1)], [])) (h1 := (zSa12, zRa10, I)) (fun n => rfl) (fun hc => ?_) (fun hc => ?_)
    · rw [if_pos hc] at hf
      obtain rfl := Option.some.inj hf
      exact zEv_weak (L := [some (.ref 2), none]) (by exact ⟨rfl, ⟨rfl, trivial⟩⟩) kk
    · rw [if_neg hc] at hf
      obtain ⟨x9, hx, hf⟩ := Option.bind_eq_some_iff.mp hf
      refine zEv_call 5 (N := 111) (vs := [.int v1]) (v1 := some (.int x9)) (h1 := (zSa12, zRa10, I)) (L := [some (.ref 2), some (.int v1)]) (rest := [.int v1, .ref 7]) (pc := 109) (fun n => rfl) (s_BM_isOne_h12_10 hx d (by omega)) rfl rfl ?_
      show zEv _ _ _ (109, [some (.ref 2), some (.int v1)], [.int x9, .int v1, .ref 7]) _ _ _
      obtain ⟨x11, hm_m10, hf⟩ := Option.bind_eq_some_iff.mp hf
      have hJ_m10 : zEv none (d + 1) 9 (118, [some (.ref 2), some (.int v1)], [.int x11, .int v1, .ref 7]) ((zSa12, zRa10, I)) v h' := by
        obtain ⟨I12, hx, hf⟩ := Option.bind_eq_some_iff.mp hf
        refine zEv_call 1 (N := 61) (vs := [.ref 7, .int v1, .int x11]) (v1 := none) (h1 := (zSa12, zRa10, I12)) (L := [some (.ref 2), some (.int v1)]) (rest := []) (pc := 121) (fun n => rfl) (s_Rw_put_7_h12_10 hx d (by omega)) rfl rfl ?_
        show zEv _ _ _ (121, [some (.ref 2), some (.int v1)], []) _ _ _
        refine zEv_go 2 (f1 := (94, [some (.ref 2), some (.int (v1 + 1))], [])) (h1 := (zSa12, zRa10, I12)) (fun n => rfl) ?_
        refine zEv_weak (L := [some (.ref 2), some (.int (v1 + 1))]) (by exact ⟨rfl, ⟨rfl, trivial⟩⟩) ?_
        exact ih hf kk
      clear hf
      refine zEv_if 1 (c := x9 = 0) (f1 := (116, [some (.ref 2), some (.int v1)], [.int v1, .ref 7])) (f2 := (112, [some (.ref 2), some (.int v1)], [.int v1, .ref 7])) (h1 := (zSa12, zRa10, I)) (fun n => rfl) (fun hc => ?_) (fun hc => ?_)
      · rw [if_pos hc] at hm_m10
        obtain rfl := Option.some.inj hm_m10
        refine zEv_go 1 (f1 := (118, [some (.ref 2), some (.int v1)], [.int (-6), .int v1, .ref 7])) (h1 := (zSa12, zRa10, I)) (fun n => rfl) ?_
        exact zEv_weak (L := [some (.ref 2), some (.int v1)]) (by exact ⟨rfl, ⟨rfl, trivial⟩⟩) hJ_m10
      · rw [if_neg hc] at hm_m10
        obtain rfl := Option.some.inj hm_m10
        refine zEv_go 2 (f1 := (118, [some (.ref 2), some (.int v1)], [.int v1, .int v1, .ref 7])) (h1 := (zSa12, zRa10, I)) (fun n => rfl) ?_
        exact zEv_weak (L := [some (.ref 2), some (.int v1)]) (by exact ⟨rfl, ⟨rfl, trivial⟩⟩) hJ_m10
def ziGa_2_L71 : Nat → Int32 → zI → Option (zI)
  | 0, _, _ => none
  | n + 1, v1, I =>
    if 8 ≤ v1 then
      some I
    else
      (Rw_put_5 v1 v1 I).bind fun I6 =>
      ziGa_2_L71 n (v1 + 1) I6
theorem s_ziGa_2_h2_0_L71 (d : Nat) (hd : 2 ≤ d) : ∀ (n : Nat) {v1 : Int32} {I : zI}  {I' : zI} {v : Option Value} {h' : zH}, ziGa_2_L71 n v1 I = some I' → zEv none d 9 (92, [some (.ref 2), none], []) (zSa12, zRa10, I') v h' → zEv none d 9 (71, [some (.ref 2), some (.int v1)], []) (zSa12, zRa10, I) v h' := by
  obtain ⟨d, rfl⟩ : ∃ e, d = e + 1 := ⟨d - 1, by omega⟩
  intro n
  induction n with
  | zero => intros; rename_i hf _; cases hf
  | succ n ih =>
    intro v1 I I' v h' hf kk
    rw [ziGa_2_L71] at hf
    refine zEv_if 3 (c := 8 ≤ v1) (f1 := (92, [some (.ref 2), some (.int v1)], [])) (f2 := (77, [some (.ref 2), some (.int v1)], [])) (h1 := (zSa12, zRa10, I)) (fun n => rfl) (fun hc => ?_) (fun hc => ?_)
    · rw [if_pos hc] at hf
      obtain rfl := Option.some.inj hf
      exact zEv_weak (L := [some (.ref 2), none]) (by exact ⟨rfl, ⟨rfl, trivial⟩⟩) kk
    · rw [if_neg hc] at hf
      obtain ⟨I6, hx, hf⟩ := Option.bind_eq_some_iff.mp hf
      refine zEv_call 5 (N := 61) (vs := [.ref 5, .int v1, .int v1]) (v1 := none) (h1 := (zSa12, zRa10, I6)) (L := [some (.ref 2), some (.int v1)]) (rest := []) (pc := 86) (fun n => rfl) (s_Rw_put_5_h12_10 hx d (by omega)) rfl rfl ?_
      show zEv _ _ _ (86, [some (.ref 2), some (.int v1)], []) _ _ _
      refine zEv_go 2 (f1 := (71, [some (.ref 2), some (.int (v1 + 1))], [])) (h1 := (zSa12, zRa10, I6)) (fun n => rfl) ?_
      refine zEv_weak (L := [some (.ref 2), some (.int (v1 + 1))]) (by exact ⟨rfl, ⟨rfl, trivial⟩⟩) ?_
      exact ih hf kk
def ziGa_2 (n : Nat) (I : zI) : Option (zI) :=
  (ziRw_3 (zRow I 3 (fun _ => 0))).bind fun I1 =>
  (ziRw_5 (zRow I1 5 (fun _ => 0))).bind fun I2 =>
  (ziRw_7 (zRow I2 7 (fun _ => 0))).bind fun I3 =>
  (ziRw_9 (zRow I3 9 (fun _ => 0))).bind fun I4 =>
  (ziRw_11 (zRow I4 11 (fun _ => 0))).bind fun I5 =>
  (ziGa_2_L71 n 0 I5).bind fun I7 =>
  (ziGa_2_L94 n 0 I7).bind fun I13 =>
  some I13
theorem s_ziGa_2_h2_0 {n : Nat} {I : zI} {I' : zI} (hf : ziGa_2 n I = some I') (d : Nat) (hd : 2 ≤ d) : zCall d 9 [.ref 2] (zSa2, zRa0, I) (none) (zSa12, zRa10, I') := by
  obtain ⟨d, rfl⟩ : ∃ e, d = e + 1 := ⟨d - 1, by omega⟩
  rw [ziGa_2] at hf
  show zEv _ _ _ (0, [some (.ref 2), none], []) _ _ _
  refine zEv_gd 4 (c := zVs 2 [some (.ref 2), none] [.ref 2] = true ∧ zHok (zSa2, zRa0, I) = true) (f1 := (8, [some (.ref 2), none], [.ref 3, .ref 2])) (h1 := (zSa3, zRa0, (zRow I 3 (fun _ => 0)))) (fun n => rfl) ⟨rfl, zHk_2_0 _⟩ ?_
  obtain ⟨I1, hx, hf⟩ := Option.bind_eq_some_iff.mp hf
  refine zEv_calln 3 (N := 59) (vs := [.ref 3, .int 10]) (v1 := none) (h1 := (zSa4, zRa1, I1)) (L := [some (.ref 2), none]) (rest := [.ref 3, .ref 2]) (pc := 14) (fun n => rfl) (s_ziRw_3_h3_0 hx d (by omega)) rfl rfl ?_
  show zEv _ _ _ (14, [some (.ref 2), none], [.ref 3, .ref 2]) _ _ _
  refine zEv_gd 3 (c := zVs 4 [some (.ref 2), none] [.ref 2] = true ∧ zHok (zSa4, zRa2, I1) = true) (f1 := (21, [some (.ref 2), none], [.ref 5, .ref 2])) (h1 := (zSa5, zRa2, (zRow I1 5 (fun _ => 0)))) (fun n => rfl) ⟨rfl, zHk_4_2 _⟩ ?_
  obtain ⟨I2, hx, hf⟩ := Option.bind_eq_some_iff.mp hf
  refine zEv_calln 3 (N := 59) (vs := [.ref 5, .int 8]) (v1 := none) (h1 := (zSa6, zRa3, I2)) (L := [some (.ref 2), none]) (rest := [.ref 5, .ref 2]) (pc := 27) (fun n => rfl) (s_ziRw_5_h5_2 hx d (by omega)) rfl rfl ?_
  show zEv _ _ _ (27, [some (.ref 2), none], [.ref 5, .ref 2]) _ _ _
  refine zEv_gd 3 (c := zVs 6 [some (.ref 2), none] [.ref 2] = true ∧ zHok (zSa6, zRa4, I2) = true) (f1 := (34, [some (.ref 2), none], [.ref 7, .ref 2])) (h1 := (zSa7, zRa4, (zRow I2 7 (fun _ => 0)))) (fun n => rfl) ⟨rfl, zHk_6_4 _⟩ ?_
  obtain ⟨I3, hx, hf⟩ := Option.bind_eq_some_iff.mp hf
  refine zEv_calln 3 (N := 59) (vs := [.ref 7, .int 12]) (v1 := none) (h1 := (zSa8, zRa5, I3)) (L := [some (.ref 2), none]) (rest := [.ref 7, .ref 2]) (pc := 40) (fun n => rfl) (s_ziRw_7_h7_4 hx d (by omega)) rfl rfl ?_
  show zEv _ _ _ (40, [some (.ref 2), none], [.ref 7, .ref 2]) _ _ _
  refine zEv_gd 3 (c := zVs 8 [some (.ref 2), none] [.ref 2] = true ∧ zHok (zSa8, zRa6, I3) = true) (f1 := (47, [some (.ref 2), none], [.ref 9, .ref 2])) (h1 := (zSa9, zRa6, (zRow I3 9 (fun _ => 0)))) (fun n => rfl) ⟨rfl, zHk_8_6 _⟩ ?_
  obtain ⟨I4, hx, hf⟩ := Option.bind_eq_some_iff.mp hf
  refine zEv_calln 3 (N := 59) (vs := [.ref 9, .int 12]) (v1 := none) (h1 := (zSa10, zRa7, I4)) (L := [some (.ref 2), none]) (rest := [.ref 9, .ref 2]) (pc := 53) (fun n => rfl) (s_ziRw_9_h9_6 hx d (by omega)) rfl rfl ?_
  show zEv _ _ _ (53, [some (.ref 2), none], [.ref 9, .ref 2]) _ _ _
  refine zEv_gd 3 (c := zVs 10 [some (.ref 2), none] [.ref 2] = true ∧ zHok (zSa10, zRa8, I4) = true) (f1 := (60, [some (.ref 2), none], [.ref 11, .ref 2])) (h1 := (zSa11, zRa8, (zRow I4 11 (fun _ => 0)))) (fun n => rfl) ⟨rfl, zHk_10_8 _⟩ ?_
  obtain ⟨I5, hx, hf⟩ := Option.bind_eq_some_iff.mp hf
  refine zEv_calln 3 (N := 59) (vs := [.ref 11, .int 8]) (v1 := none) (h1 := (zSa12, zRa9, I5)) (L := [some (.ref 2), none]) (rest := [.ref 11, .ref 2]) (pc := 66) (fun n => rfl) (s_ziRw_11_h11_8 hx d (by omega)) rfl rfl ?_
  show zEv _ _ _ (66, [some (.ref 2), none], [.ref 11, .ref 2]) _ _ _
  obtain ⟨I7, hx, hf⟩ := Option.bind_eq_some_iff.mp hf
  refine zEv_go 3 (f1 := (71, [some (.ref 2), some (.int 0)], [])) (h1 := (zSa12, zRa10, I5)) (fun n => rfl) ?_
  refine zEv_weak (L := [some (.ref 2), some (.int 0)]) (by exact ⟨rfl, ⟨rfl, trivial⟩⟩) (s_ziGa_2_h2_0_L71 (d + 1) (by omega) n hx ?_)
  obtain ⟨I13, hx, hf⟩ := Option.bind_eq_some_iff.mp hf
  refine zEv_go 2 (f1 := (94, [some (.ref 2), some (.int 0)], [])) (h1 := (zSa12, zRa10, I7)) (fun n => rfl) ?_
  refine zEv_weak (L := [some (.ref 2), some (.int 0)]) (by exact ⟨rfl, ⟨rfl, trivial⟩⟩) (s_ziGa_2_h2_0_L94 (d + 1) (by omega) n hx ?_)
  cases hf
  exact zEv_ret 1 (fun n => rfl)
def ziRw_14  (I : zI) : Option (zI) :=
  some (zRow I 15 (fun _ => 0))
theorem s_ziRw_14_h14_11  {I : zI} {I' : zI} (hf : ziRw_14 I = some I') (d : Nat) (hd : 1 ≤ d) : zCall d 59 [.ref 14, .int 10] (zSa14, zRa11, I) (none) (zSa15, zRa12, I') := by
  obtain ⟨d, rfl⟩ : ∃ e, d = e + 1 := ⟨d - 1, by omega⟩
  rw [ziRw_14] at hf
  show zEv _ _ _ (0, [some (.ref 14), some (.int 10)], []) _ _ _
  refine zEv_gd 7 (c := ¬ (10 : Int32) < 0 ∧ Int32.toNatClampNeg 10 ≤ 100000 ∧ zVs 14 [some (.ref 14), some (.int 10)] [.ref 14] = true ∧ zHok (zSa14, zRa11, I) = true) (f1 := (12, [some (.ref 14), some (.int 10)], [.ref 15, .ref 14])) (h1 := (zSa15, zRa11, (zRow I 15 (fun _ => 0)))) (fun n => rfl) ⟨by decide, by decide, rfl, zHk_14_11 _⟩ ?_
  cases hf
  exact zEv_ret 2 (fun n => rfl)
def ziRw_16  (I : zI) : Option (zI) :=
  some (zRow I 17 (fun _ => 0))
theorem s_ziRw_16_h16_13  {I : zI} {I' : zI} (hf : ziRw_16 I = some I') (d : Nat) (hd : 1 ≤ d) : zCall d 59 [.ref 16, .int 8] (zSa16, zRa13, I) (none) (zSa17, zRa14, I') := by
  obtain ⟨d, rfl⟩ : ∃ e, d = e + 1 := ⟨d - 1, by omega⟩
  rw [ziRw_16] at hf
  show zEv _ _ _ (0, [some (.ref 16), some (.int 8)], []) _ _ _
  refine zEv_gd 7 (c := ¬ (8 : Int32) < 0 ∧ Int32.toNatClampNeg 8 ≤ 100000 ∧ zVs 16 [some (.ref 16), some (.int 8)] [.ref 16] = true ∧ zHok (zSa16, zRa13, I) = true) (f1 := (12, [some (.ref 16), some (.int 8)], [.ref 17, .ref 16])) (h1 := (zSa17, zRa13, (zRow I 17 (fun _ => 0)))) (fun n => rfl) ⟨by decide, by decide, rfl, zHk_16_13 _⟩ ?_
  cases hf
  exact zEv_ret 2 (fun n => rfl)
def ziRw_18  (I : zI) : Option (zI) :=
  some (zRow I 19 (fun _ => 0))
theorem s_ziRw_18_h18_15  {I : zI} {I' : zI} (hf : ziRw_18 I = some I') (d : Nat) (hd : 1 ≤ d) : zCall d 59 [.ref 18, .int 12] (zSa18, zRa15, I) (none) (zSa19, zRa16, I') := by
  obtain ⟨d, rfl⟩ : ∃ e, d = e + 1 := ⟨d - 1, by omega⟩
  rw [ziRw_18] at hf
  show zEv _ _ _ (0, [some (.ref 18), some (.int 12)], []) _ _ _
  refine zEv_gd 7 (c := ¬ (12 : Int32) < 0 ∧ Int32.toNatClampNeg 12 ≤ 100000 ∧ zVs 18 [some (.ref 18), some (.int 12)] [.ref 18] = true ∧ zHok (zSa18, zRa15, I) = true) (f1 := (12, [some (.ref 18), some (.int 12)], [.ref 19, .ref 18])) (h1 := (zSa19, zRa15, (zRow I 19 (fun _ => 0)))) (fun n => rfl) ⟨by decide, by decide, rfl, zHk_18_15 _⟩ ?_
  cases hf
  exact zEv_ret 2 (fun n => rfl)
def ziRw_20  (I : zI) : Option (zI) :=
  some (zRow I 21 (fun _ => 0))
theorem s_ziRw_20_h20_17  {I : zI} {I' : zI} (hf : ziRw_20 I = some I') (d : Nat) (hd : 1 ≤ d) : zCall d 59 [.ref 20, .int 12] (zSa20, zRa17, I) (none) (zSa21, zRa18, I') := by
  obtain ⟨d, rfl⟩ : ∃ e, d = e + 1 := ⟨d - 1, by omega⟩
  rw [ziRw_20] at hf
  show zEv _ _ _ (0, [some (.ref 20), some (.int 12)], []) _ _ _
  refine zEv_gd 7 (c := ¬ (12 : Int32) < 0 ∧ Int32.toNatClampNeg 12 ≤ 100000 ∧ zVs 20 [some (.ref 20), some (.int 12)] [.ref 20] = true ∧ zHok (zSa20, zRa17, I) = true) (f1 := (12, [some (.ref 20), some (.int 12)], [.ref 21, .ref 20])) (h1 := (zSa21, zRa17, (zRow I 21 (fun _ => 0)))) (fun n => rfl) ⟨by decide, by decide, rfl, zHk_20_17 _⟩ ?_
  cases hf
  exact zEv_ret 2 (fun n => rfl)
def ziRw_22  (I : zI) : Option (zI) :=
  some (zRow I 23 (fun _ => 0))
theorem s_ziRw_22_h22_19  {I : zI} {I' : zI} (hf : ziRw_22 I = some I') (d : Nat) (hd : 1 ≤ d) : zCall d 59 [.ref 22, .int 8] (zSa22, zRa19, I) (none) (zSa23, zRa20, I') := by
  obtain ⟨d, rfl⟩ : ∃ e, d = e + 1 := ⟨d - 1, by omega⟩
  rw [ziRw_22] at hf
  show zEv _ _ _ (0, [some (.ref 22), some (.int 8)], []) _ _ _
  refine zEv_gd 7 (c := ¬ (8 : Int32) < 0 ∧ Int32.toNatClampNeg 8 ≤ 100000 ∧ zVs 22 [some (.ref 22), some (.int 8)] [.ref 22] = true ∧ zHok (zSa22, zRa19, I) = true) (f1 := (12, [some (.ref 22), some (.int 8)], [.ref 23, .ref 22])) (h1 := (zSa23, zRa19, (zRow I 23 (fun _ => 0)))) (fun n => rfl) ⟨by decide, by decide, rfl, zHk_22_19 _⟩ ?_
  cases hf
  exact zEv_ret 2 (fun n => rfl)
def Rw_put_16  (a0 : Int32) (a1 : Int32) (I : zI) : Option (zI) :=
  if a0 < 0 then
    some I
  else
    if 8 ≤ a0 then
      some I
    else
      if zIn a0 8 then
        some (zUp I 17 (Int32.toNatClampNeg a0) a1)
      else none
theorem s_Rw_put_16_h23_21  {a0 : Int32} {a1 : Int32} {I : zI} {I' : zI} (hf : Rw_put_16 a0 a1 I = some I') (d : Nat) (hd : 0 ≤ d) : zCall d 61 [.ref 16, .int a0, .int a1] (zSa23, zRa21, I) (none) (zSa23, zRa21, I') := by
  rw [Rw_put_16] at hf
  show zEv _ _ _ (0, [some (.ref 16), some (.int a0), some (.int a1)], []) _ _ _
  refine zEv_if 2 (c := a0 < 0) (f1 := (20, [some (.ref 16), some (.int a0), some (.int a1)], [])) (f2 := (4, [some (.ref 16), some (.int a0), some (.int a1)], [])) (h1 := (zSa23, zRa21, I)) (fun n => rfl) (fun hc => ?_) (fun hc => ?_)
  · rw [if_pos hc] at hf
    cases hf
    exact zEv_ret 1 (fun n => rfl)
  · rw [if_neg hc] at hf
    refine zEv_if 5 (c := 8 ≤ a0) (f1 := (20, [some (.ref 16), some (.int a0), some (.int a1)], [])) (f2 := (13, [some (.ref 16), some (.int a0), some (.int a1)], [])) (h1 := (zSa23, zRa21, I)) (fun n => rfl) (fun hc => ?_) (fun hc => ?_)
    · rw [if_pos hc] at hf
      cases hf
      exact zEv_ret 1 (fun n => rfl)
    · rw [if_neg hc] at hf
      obtain ⟨hc, hf⟩ := zGd_inv hf
      refine zEv_gd 5 (c := zIn a0 8) (f1 := (20, [some (.ref 16), some (.int a0), some (.int a1)], [])) (h1 := (zSa23, zRa21, (zUp I 17 (Int32.toNatClampNeg a0) a1))) (fun n => rfl) hc ?_
      cases hf
      exact zEv_ret 1 (fun n => rfl)
theorem s_BM_isWithin_h23_21  {a0 : Int32} {a1 : Int32} {a2 : Int32} {I : zI} {r : Int32} (hf : BM_isWithin a0 a1 a2 I = some r) (d : Nat) (hd : 0 ≤ d) : zCall d 109 [.int a0, .int a1, .int a2] (zSa23, zRa21, I) (some (.int r)) (zSa23, zRa21, I) := by
  rw [BM_isWithin] at hf
  show zEv _ _ _ (0, [some (.int a0), some (.int a1), some (.int a2)], []) _ _ _
  refine zEv_if 3 (c := a0 < a1) (f1 := (14, [some (.int a0), some (.int a1), some (.int a2)], [])) (f2 := (5, [some (.int a0), some (.int a1), some (.int a2)], [])) (h1 := (zSa23, zRa21, I)) (fun n => rfl) (fun hc => ?_) (fun hc => ?_)
  · rw [if_pos hc] at hf
    cases hf
    exact zEv_ret 2 (fun n => rfl)
  · rw [if_neg hc] at hf
    refine zEv_if 3 (c := a2 < a0) (f1 := (14, [some (.int a0), some (.int a1), some (.int a2)], [])) (f2 := (10, [some (.int a0), some (.int a1), some (.int a2)], [])) (h1 := (zSa23, zRa21, I)) (fun n => rfl) (fun hc => ?_) (fun hc => ?_)
    · rw [if_pos hc] at hf
      cases hf
      exact zEv_ret 2 (fun n => rfl)
    · rw [if_neg hc] at hf
      cases hf
      exact zEv_ret 3 (fun n => rfl)
theorem s_BM_isOne_h23_21  {a0 : Int32} {I : zI} {r : Int32} (hf : BM_isOne a0 I = some r) (d : Nat) (hd : 1 ≤ d) : zCall d 111 [.int a0] (zSa23, zRa21, I) (some (.int r)) (zSa23, zRa21, I) := by
  obtain ⟨d, rfl⟩ : ∃ e, d = e + 1 := ⟨d - 1, by omega⟩
  rw [BM_isOne] at hf
  show zEv _ _ _ (0, [some (.int a0)], []) _ _ _
  obtain ⟨x22, hx, hf⟩ := Option.bind_eq_some_iff.mp hf
  refine zEv_call 4 (N := 109) (vs := [.int a0, .int 0, .int 7]) (v1 := some (.int x22)) (h1 := (zSa23, zRa21, I)) (L := [some (.int a0)]) (rest := []) (pc := 7) (fun n => rfl) (s_BM_isWithin_h23_21 hx d (by omega)) rfl rfl ?_
  show zEv _ _ _ (7, [some (.int a0)], [.int x22]) _ _ _
  obtain ⟨hc, hf⟩ := zGd_inv hf
  cases hf
  exact zEv_rt hc 1 (fun n => rfl)
def Rw_put_18  (a0 : Int32) (a1 : Int32) (I : zI) : Option (zI) :=
  if a0 < 0 then
    some I
  else
    if 12 ≤ a0 then
      some I
    else
      if zIn a0 12 then
        some (zUp I 19 (Int32.toNatClampNeg a0) a1)
      else none
theorem s_Rw_put_18_h23_21  {a0 : Int32} {a1 : Int32} {I : zI} {I' : zI} (hf : Rw_put_18 a0 a1 I = some I') (d : Nat) (hd : 0 ≤ d) : zCall d 61 [.ref 18, .int a0, .int a1] (zSa23, zRa21, I) (none) (zSa23, zRa21, I') := by
  rw [Rw_put_18] at hf
  show zEv _ _ _ (0, [some (.ref 18), some (.int a0), some (.int a1)], []) _ _ _
  refine zEv_if 2 (c := a0 < 0) (f1 := (20, [some (.ref 18), some (.int a0), some (.int a1)], [])) (f2 := (4, [some (.ref 18), some (.int a0), some (.int a1)], [])) (h1 := (zSa23, zRa21, I)) (fun n => rfl) (fun hc => ?_) (fun hc => ?_)
  · rw [if_pos hc] at hf
    cases hf
    exact zEv_ret 1 (fun n => rfl)
  · rw [if_neg hc] at hf
    refine zEv_if 5 (c := 12 ≤ a0) (f1 := (20, [some (.ref 18), some (.int a0), some (.int a1)], [])) (f2 := (13, [some (.ref 18), some (.int a0), some (.int a1)], [])) (h1 := (zSa23, zRa21, I)) (fun n => rfl) (fun hc => ?_) (fun hc => ?_)
    · rw [if_pos hc] at hf
      cases hf
      exact zEv_ret 1 (fun n => rfl)
    · rw [if_neg hc] at hf
      obtain ⟨hc, hf⟩ := zGd_inv hf
      refine zEv_gd 5 (c := zIn a0 12) (f1 := (20, [some (.ref 18), some (.int a0), some (.int a1)], [])) (h1 := (zSa23, zRa21, (zUp I 19 (Int32.toNatClampNeg a0) a1))) (fun n => rfl) hc ?_
      cases hf
      exact zEv_ret 1 (fun n => rfl)
def ziGa_13_L94 : Nat → Int32 → zI → Option (zI)
  | 0, _, _ => none
  | n + 1, v1, I =>
    if 12 ≤ v1 then
      some I
    else
      (BM_isOne v1 I).bind fun x23 =>
      (
        if x23 = 0 then
          some (-6)
        else
          some v1 : Option (Int32)).bind fun x25 =>
      (Rw_put_18 v1 x25 I).bind fun I26 =>
      ziGa_13_L94 n (v1 + 1) I26
theorem s_ziGa_13_h13_11_L94 (d : Nat) (hd : 2 ≤ d) : ∀ (n : Nat) {v1 : Int32} {I : zI}  {I' : zI} {v : Option Value} {h' : zH}, ziGa_13_L94 n v1 I = some I' → zEv none d 9 (127, [some (.ref 13), none], []) (zSa23, zRa21, I') v h' → zEv none d 9 (94, [some (.ref 13), some (.int v1)], []) (zSa23, zRa21, I) v h' := by
  obtain ⟨d, rfl⟩ : ∃ e, d = e + 1 := ⟨d - 1, by omega⟩
  intro n
  induction n with
  | zero => intros; rename_i hf _; cases hf
  | succ n ih =>
    intro v1 I I' v h' hf kk
    rw [ziGa_13_L94] at hf
    refine zEv_if 3 (c := 12 ≤ v1) (f1 := (127, [some (.ref 13), some (.int v1)], [])) (f2 := (100, [some (.ref 13), some (.int v1)], [])) (h1 := (zSa23, zRa21, I)) (fun n => rfl) (fun hc => ?_) (fun hc => ?_)
    · rw [if_pos hc] at hf
      obtain rfl := Option.some.inj hf
      exact zEv_weak (L := [some (.ref 13), none]) (by exact ⟨rfl, ⟨rfl, trivial⟩⟩) kk
    · rw [if_neg hc] at hf
      obtain ⟨x23, hx, hf⟩ := Option.bind_eq_some_iff.mp hf
      refine zEv_call 5 (N := 111) (vs := [.int v1]) (v1 := some (.int x23)) (h1 := (zSa23, zRa21, I)) (L := [some (.ref 13), some (.int v1)]) (rest := [.int v1, .ref 18]) (pc := 109) (fun n => rfl) (s_BM_isOne_h23_21 hx d (by omega)) rfl rfl ?_
      show zEv _ _ _ (109, [some (.ref 13), some (.int v1)], [.int x23, .int v1, .ref 18]) _ _ _
      obtain ⟨x25, hm_m24, hf⟩ := Option.bind_eq_some_iff.mp hf
      have hJ_m24 : zEv none (d + 1) 9 (118, [some (.ref 13), some (.int v1)], [.int x25, .int v1, .ref 18]) ((zSa23, zRa21, I)) v h' := by
        obtain ⟨I26, hx, hf⟩ := Option.bind_eq_some_iff.mp hf
        refine zEv_call 1 (N := 61) (vs := [.ref 18, .int v1, .int x25]) (v1 := none) (h1 := (zSa23, zRa21, I26)) (L := [some (.ref 13), some (.int v1)]) (rest := []) (pc := 121) (fun n => rfl) (s_Rw_put_18_h23_21 hx d (by omega)) rfl rfl ?_
        show zEv _ _ _ (121, [some (.ref 13), some (.int v1)], []) _ _ _
        refine zEv_go 2 (f1 := (94, [some (.ref 13), some (.int (v1 + 1))], [])) (h1 := (zSa23, zRa21, I26)) (fun n => rfl) ?_
        refine zEv_weak (L := [some (.ref 13), some (.int (v1 + 1))]) (by exact ⟨rfl, ⟨rfl, trivial⟩⟩) ?_
        exact ih hf kk
      clear hf
      refine zEv_if 1 (c := x23 = 0) (f1 := (116, [some (.ref 13), some (.int v1)], [.int v1, .ref 18])) (f2 := (112, [some (.ref 13), some (.int v1)], [.int v1, .ref 18])) (h1 := (zSa23, zRa21, I)) (fun n => rfl) (fun hc => ?_) (fun hc => ?_)
      · rw [if_pos hc] at hm_m24
        obtain rfl := Option.some.inj hm_m24
        refine zEv_go 1 (f1 := (118, [some (.ref 13), some (.int v1)], [.int (-6), .int v1, .ref 18])) (h1 := (zSa23, zRa21, I)) (fun n => rfl) ?_
        exact zEv_weak (L := [some (.ref 13), some (.int v1)]) (by exact ⟨rfl, ⟨rfl, trivial⟩⟩) hJ_m24
      · rw [if_neg hc] at hm_m24
        obtain rfl := Option.some.inj hm_m24
        refine zEv_go 2 (f1 := (118, [some (.ref 13), some (.int v1)], [.int v1, .int v1, .ref 18])) (h1 := (zSa23, zRa21, I)) (fun n => rfl) ?_
        exact zEv_weak (L := [some (.ref 13), some (.int v1)]) (by exact ⟨rfl, ⟨rfl, trivial⟩⟩) hJ_m24
def ziGa_13_L71 : Nat → Int32 → zI → Option (zI)
  | 0, _, _ => none
  | n + 1, v1, I =>
    if 8 ≤ v1 then
      some I
    else
      (Rw_put_16 v1 v1 I).bind fun I20 =>
      ziGa_13_L71 n (v1 + 1) I20
theorem s_ziGa_13_h13_11_L71 (d : Nat) (hd : 2 ≤ d) : ∀ (n : Nat) {v1 : Int32} {I : zI}  {I' : zI} {v : Option Value} {h' : zH}, ziGa_13_L71 n v1 I = some I' → zEv none d 9 (92, [some (.ref 13), none], []) (zSa23, zRa21, I') v h' → zEv none d 9 (71, [some (.ref 13), some (.int v1)], []) (zSa23, zRa21, I) v h' := by
  obtain ⟨d, rfl⟩ : ∃ e, d = e + 1 := ⟨d - 1, by omega⟩
  intro n
  induction n with
  | zero => intros; rename_i hf _; cases hf
  | succ n ih =>
    intro v1 I I' v h' hf kk
    rw [ziGa_13_L71] at hf
    refine zEv_if 3 (c := 8 ≤ v1) (f1 := (92, [some (.ref 13), some (.int v1)], [])) (f2 := (77, [some (.ref 13), some (.int v1)], [])) (h1 := (zSa23, zRa21, I)) (fun n => rfl) (fun hc => ?_) (fun hc => ?_)
    · rw [if_pos hc] at hf
      obtain rfl := Option.some.inj hf
      exact zEv_weak (L := [some (.ref 13), none]) (by exact ⟨rfl, ⟨rfl, trivial⟩⟩) kk
    · rw [if_neg hc] at hf
      obtain ⟨I20, hx, hf⟩ := Option.bind_eq_some_iff.mp hf
      refine zEv_call 5 (N := 61) (vs := [.ref 16, .int v1, .int v1]) (v1 := none) (h1 := (zSa23, zRa21, I20)) (L := [some (.ref 13), some (.int v1)]) (rest := []) (pc := 86) (fun n => rfl) (s_Rw_put_16_h23_21 hx d (by omega)) rfl rfl ?_
      show zEv _ _ _ (86, [some (.ref 13), some (.int v1)], []) _ _ _
      refine zEv_go 2 (f1 := (71, [some (.ref 13), some (.int (v1 + 1))], [])) (h1 := (zSa23, zRa21, I20)) (fun n => rfl) ?_
      refine zEv_weak (L := [some (.ref 13), some (.int (v1 + 1))]) (by exact ⟨rfl, ⟨rfl, trivial⟩⟩) ?_
      exact ih hf kk
def ziGa_13 (n : Nat) (I : zI) : Option (zI) :=
  (ziRw_14 (zRow I 14 (fun _ => 0))).bind fun I15 =>
  (ziRw_16 (zRow I15 16 (fun _ => 0))).bind fun I16 =>
  (ziRw_18 (zRow I16 18 (fun _ => 0))).bind fun I17 =>
  (ziRw_20 (zRow I17 20 (fun _ => 0))).bind fun I18 =>
  (ziRw_22 (zRow I18 22 (fun _ => 0))).bind fun I19 =>
  (ziGa_13_L71 n 0 I19).bind fun I21 =>
  (ziGa_13_L94 n 0 I21).bind fun I27 =>
  some I27
theorem s_ziGa_13_h13_11 {n : Nat} {I : zI} {I' : zI} (hf : ziGa_13 n I = some I') (d : Nat) (hd : 2 ≤ d) : zCall d 9 [.ref 13] (zSa13, zRa11, I) (none) (zSa23, zRa21, I') := by
  obtain ⟨d, rfl⟩ : ∃ e, d = e + 1 := ⟨d - 1, by omega⟩
  rw [ziGa_13] at hf
  show zEv _ _ _ (0, [some (.ref 13), none], []) _ _ _
  refine zEv_gd 4 (c := zVs 13 [some (.ref 13), none] [.ref 13] = true ∧ zHok (zSa13, zRa11, I) = true) (f1 := (8, [some (.ref 13), none], [.ref 14, .ref 13])) (h1 := (zSa14, zRa11, (zRow I 14 (fun _ => 0)))) (fun n => rfl) ⟨rfl, zHk_13_11 _⟩ ?_
  obtain ⟨I15, hx, hf⟩ := Option.bind_eq_some_iff.mp hf
  refine zEv_calln 3 (N := 59) (vs := [.ref 14, .int 10]) (v1 := none) (h1 := (zSa15, zRa12, I15)) (L := [some (.ref 13), none]) (rest := [.ref 14, .ref 13]) (pc := 14) (fun n => rfl) (s_ziRw_14_h14_11 hx d (by omega)) rfl rfl ?_
  show zEv _ _ _ (14, [some (.ref 13), none], [.ref 14, .ref 13]) _ _ _
  refine zEv_gd 3 (c := zVs 15 [some (.ref 13), none] [.ref 13] = true ∧ zHok (zSa15, zRa13, I15) = true) (f1 := (21, [some (.ref 13), none], [.ref 16, .ref 13])) (h1 := (zSa16, zRa13, (zRow I15 16 (fun _ => 0)))) (fun n => rfl) ⟨rfl, zHk_15_13 _⟩ ?_
  obtain ⟨I16, hx, hf⟩ := Option.bind_eq_some_iff.mp hf
  refine zEv_calln 3 (N := 59) (vs := [.ref 16, .int 8]) (v1 := none) (h1 := (zSa17, zRa14, I16)) (L := [some (.ref 13), none]) (rest := [.ref 16, .ref 13]) (pc := 27) (fun n => rfl) (s_ziRw_16_h16_13 hx d (by omega)) rfl rfl ?_
  show zEv _ _ _ (27, [some (.ref 13), none], [.ref 16, .ref 13]) _ _ _
  refine zEv_gd 3 (c := zVs 17 [some (.ref 13), none] [.ref 13] = true ∧ zHok (zSa17, zRa15, I16) = true) (f1 := (34, [some (.ref 13), none], [.ref 18, .ref 13])) (h1 := (zSa18, zRa15, (zRow I16 18 (fun _ => 0)))) (fun n => rfl) ⟨rfl, zHk_17_15 _⟩ ?_
  obtain ⟨I17, hx, hf⟩ := Option.bind_eq_some_iff.mp hf
  refine zEv_calln 3 (N := 59) (vs := [.ref 18, .int 12]) (v1 := none) (h1 := (zSa19, zRa16, I17)) (L := [some (.ref 13), none]) (rest := [.ref 18, .ref 13]) (pc := 40) (fun n => rfl) (s_ziRw_18_h18_15 hx d (by omega)) rfl rfl ?_
  show zEv _ _ _ (40, [some (.ref 13), none], [.ref 18, .ref 13]) _ _ _
  refine zEv_gd 3 (c := zVs 19 [some (.ref 13), none] [.ref 13] = true ∧ zHok (zSa19, zRa17, I17) = true) (f1 := (47, [some (.ref 13), none], [.ref 20, .ref 13])) (h1 := (zSa20, zRa17, (zRow I17 20 (fun _ => 0)))) (fun n => rfl) ⟨rfl, zHk_19_17 _⟩ ?_
  obtain ⟨I18, hx, hf⟩ := Option.bind_eq_some_iff.mp hf
  refine zEv_calln 3 (N := 59) (vs := [.ref 20, .int 12]) (v1 := none) (h1 := (zSa21, zRa18, I18)) (L := [some (.ref 13), none]) (rest := [.ref 20, .ref 13]) (pc := 53) (fun n => rfl) (s_ziRw_20_h20_17 hx d (by omega)) rfl rfl ?_
  show zEv _ _ _ (53, [some (.ref 13), none], [.ref 20, .ref 13]) _ _ _
  refine zEv_gd 3 (c := zVs 21 [some (.ref 13), none] [.ref 13] = true ∧ zHok (zSa21, zRa19, I18) = true) (f1 := (60, [some (.ref 13), none], [.ref 22, .ref 13])) (h1 := (zSa22, zRa19, (zRow I18 22 (fun _ => 0)))) (fun n => rfl) ⟨rfl, zHk_21_19 _⟩ ?_
  obtain ⟨I19, hx, hf⟩ := Option.bind_eq_some_iff.mp hf
  refine zEv_calln 3 (N := 59) (vs := [.ref 22, .int 8]) (v1 := none) (h1 := (zSa23, zRa20, I19)) (L := [some (.ref 13), none]) (rest := [.ref 22, .ref 13]) (pc := 66) (fun n => rfl) (s_ziRw_22_h22_19 hx d (by omega)) rfl rfl ?_
  show zEv _ _ _ (66, [some (.ref 13), none], [.ref 22, .ref 13]) _ _ _
  obtain ⟨I21, hx, hf⟩ := Option.bind_eq_some_iff.mp hf
  refine zEv_go 3 (f1 := (71, [some (.ref 13), some (.int 0)], [])) (h1 := (zSa23, zRa21, I19)) (fun n => rfl) ?_
  refine zEv_weak (L := [some (.ref 13), some (.int 0)]) (by exact ⟨rfl, ⟨rfl, trivial⟩⟩) (s_ziGa_13_h13_11_L71 (d + 1) (by omega) n hx ?_)
  obtain ⟨I27, hx, hf⟩ := Option.bind_eq_some_iff.mp hf
  refine zEv_go 2 (f1 := (94, [some (.ref 13), some (.int 0)], [])) (h1 := (zSa23, zRa21, I21)) (fun n => rfl) ?_
  refine zEv_weak (L := [some (.ref 13), some (.int 0)]) (by exact ⟨rfl, ⟨rfl, trivial⟩⟩) (s_ziGa_13_h13_11_L94 (d + 1) (by omega) n hx ?_)
  cases hf
  exact zEv_ret 1 (fun n => rfl)
def ziRw_25  (I : zI) : Option (zI) :=
  some (zRow I 26 (fun _ => 0))
theorem s_ziRw_25_h25_22  {I : zI} {I' : zI} (hf : ziRw_25 I = some I') (d : Nat) (hd : 1 ≤ d) : zCall d 59 [.ref 25, .int 10] (zSa25, zRa22, I) (none) (zSa26, zRa23, I') := by
  obtain ⟨d, rfl⟩ : ∃ e, d = e + 1 := ⟨d - 1, by omega⟩
  rw [ziRw_25] at hf
  show zEv _ _ _ (0, [some (.ref 25), some (.int 10)], []) _ _ _
  refine zEv_gd 7 (c := ¬ (10 : Int32) < 0 ∧ Int32.toNatClampNeg 10 ≤ 100000 ∧ zVs 25 [some (.ref 25), some (.int 10)] [.ref 25] = true ∧ zHok (zSa25, zRa22, I) = true) (f1 := (12, [some (.ref 25), some (.int 10)], [.ref 26, .ref 25])) (h1 := (zSa26, zRa22, (zRow I 26 (fun _ => 0)))) (fun n => rfl) ⟨by decide, by decide, rfl, zHk_25_22 _⟩ ?_
  cases hf
  exact zEv_ret 2 (fun n => rfl)
def ziRw_27  (I : zI) : Option (zI) :=
  some (zRow I 28 (fun _ => 0))
theorem s_ziRw_27_h27_24  {I : zI} {I' : zI} (hf : ziRw_27 I = some I') (d : Nat) (hd : 1 ≤ d) : zCall d 59 [.ref 27, .int 8] (zSa27, zRa24, I) (none) (zSa28, zRa25, I') := by
  obtain ⟨d, rfl⟩ : ∃ e, d = e + 1 := ⟨d - 1, by omega⟩
  rw [ziRw_27] at hf
  show zEv _ _ _ (0, [some (.ref 27), some (.int 8)], []) _ _ _
  refine zEv_gd 7 (c := ¬ (8 : Int32) < 0 ∧ Int32.toNatClampNeg 8 ≤ 100000 ∧ zVs 27 [some (.ref 27), some (.int 8)] [.ref 27] = true ∧ zHok (zSa27, zRa24, I) = true) (f1 := (12, [some (.ref 27), some (.int 8)], [.ref 28, .ref 27])) (h1 := (zSa28, zRa24, (zRow I 28 (fun _ => 0)))) (fun n => rfl) ⟨by decide, by decide, rfl, zHk_27_24 _⟩ ?_
  cases hf
  exact zEv_ret 2 (fun n => rfl)
def ziRw_29  (I : zI) : Option (zI) :=
  some (zRow I 30 (fun _ => 0))
theorem s_ziRw_29_h29_26  {I : zI} {I' : zI} (hf : ziRw_29 I = some I') (d : Nat) (hd : 1 ≤ d) : zCall d 59 [.ref 29, .int 12] (zSa29, zRa26, I) (none) (zSa30, zRa27, I') := by
  obtain ⟨d, rfl⟩ : ∃ e, d = e + 1 := ⟨d - 1, by omega⟩
  rw [ziRw_29] at hf
  show zEv _ _ _ (0, [some (.ref 29), some (.int 12)], []) _ _ _
  refine zEv_gd 7 (c := ¬ (12 : Int32) < 0 ∧ Int32.toNatClampNeg 12 ≤ 100000 ∧ zVs 29 [some (.ref 29), some (.int 12)] [.ref 29] = true ∧ zHok (zSa29, zRa26, I) = true) (f1 := (12, [some (.ref 29), some (.int 12)], [.ref 30, .ref 29])) (h1 := (zSa30, zRa26, (zRow I 30 (fun _ => 0)))) (fun n => rfl) ⟨by decide, by decide, rfl, zHk_29_26 _⟩ ?_
  cases hf
  exact zEv_ret 2 (fun n => rfl)
def ziRw_31  (I : zI) : Option (zI) :=
  some (zRow I 32 (fun _ => 0))
theorem s_ziRw_31_h31_28  {I : zI} {I' : zI} (hf : ziRw_31 I = some I') (d : Nat) (hd : 1 ≤ d) : zCall d 59 [.ref 31, .int 12] (zSa31, zRa28, I) (none) (zSa32, zRa29, I') := by
  obtain ⟨d, rfl⟩ : ∃ e, d = e + 1 := ⟨d - 1, by omega⟩
  rw [ziRw_31] at hf
  show zEv _ _ _ (0, [some (.ref 31), some (.int 12)], []) _ _ _
  refine zEv_gd 7 (c := ¬ (12 : Int32) < 0 ∧ Int32.toNatClampNeg 12 ≤ 100000 ∧ zVs 31 [some (.ref 31), some (.int 12)] [.ref 31] = true ∧ zHok (zSa31, zRa28, I) = true) (f1 := (12, [some (.ref 31), some (.int 12)], [.ref 32, .ref 31])) (h1 := (zSa32, zRa28, (zRow I 32 (fun _ => 0)))) (fun n => rfl) ⟨by decide, by decide, rfl, zHk_31_28 _⟩ ?_
  cases hf
  exact zEv_ret 2 (fun n => rfl)
def ziRw_33  (I : zI) : Option (zI) :=
  some (zRow I 34 (fun _ => 0))
theorem s_ziRw_33_h33_30  {I : zI} {I' : zI} (hf : ziRw_33 I = some I') (d : Nat) (hd : 1 ≤ d) : zCall d 59 [.ref 33, .int 8] (zSa33, zRa30, I) (none) (zSa34, zRa31, I') := by
  obtain ⟨d, rfl⟩ : ∃ e, d = e + 1 := ⟨d - 1, by omega⟩
  rw [ziRw_33] at hf
  show zEv _ _ _ (0, [some (.ref 33), some (.int 8)], []) _ _ _
  refine zEv_gd 7 (c := ¬ (8 : Int32) < 0 ∧ Int32.toNatClampNeg 8 ≤ 100000 ∧ zVs 33 [some (.ref 33), some (.int 8)] [.ref 33] = true ∧ zHok (zSa33, zRa30, I) = true) (f1 := (12, [some (.ref 33), some (.int 8)], [.ref 34, .ref 33])) (h1 := (zSa34, zRa30, (zRow I 34 (fun _ => 0)))) (fun n => rfl) ⟨by decide, by decide, rfl, zHk_33_30 _⟩ ?_
  cases hf
  exact zEv_ret 2 (fun n => rfl)
def Rw_put_27  (a0 : Int32) (a1 : Int32) (I : zI) : Option (zI) :=
  if a0 < 0 then
    some I
  else
    if 8 ≤ a0 then
      some I
    else
      if zIn a0 8 then
        some (zUp I 28 (Int32.toNatClampNeg a0) a1)
      else none
theorem s_Rw_put_27_h34_32  {a0 : Int32} {a1 : Int32} {I : zI} {I' : zI} (hf : Rw_put_27 a0 a1 I = some I') (d : Nat) (hd : 0 ≤ d) : zCall d 61 [.ref 27, .int a0, .int a1] (zSa34, zRa32, I) (none) (zSa34, zRa32, I') := by
  rw [Rw_put_27] at hf
  show zEv _ _ _ (0, [some (.ref 27), some (.int a0), some (.int a1)], []) _ _ _
  refine zEv_if 2 (c := a0 < 0) (f1 := (20, [some (.ref 27), some (.int a0), some (.int a1)], [])) (f2 := (4, [some (.ref 27), some (.int a0), some (.int a1)], [])) (h1 := (zSa34, zRa32, I)) (fun n => rfl) (fun hc => ?_) (fun hc => ?_)
  · rw [if_pos hc] at hf
    cases hf
    exact zEv_ret 1 (fun n => rfl)
  · rw [if_neg hc] at hf
    refine zEv_if 5 (c := 8 ≤ a0) (f1 := (20, [some (.ref 27), some (.int a0), some (.int a1)], [])) (f2 := (13, [some (.ref 27), some (.int a0), some (.int a1)], [])) (h1 := (zSa34, zRa32, I)) (fun n => rfl) (fun hc => ?_) (fun hc => ?_)
    · rw [if_pos hc] at hf
      cases hf
      exact zEv_ret 1 (fun n => rfl)
    · rw [if_neg hc] at hf
      obtain ⟨hc, hf⟩ := zGd_inv hf
      refine zEv_gd 5 (c := zIn a0 8) (f1 := (20, [some (.ref 27), some (.int a0), some (.int a1)], [])) (h1 := (zSa34, zRa32, (zUp I 28 (Int32.toNatClampNeg a0) a1))) (fun n => rfl) hc ?_
      cases hf
      exact zEv_ret 1 (fun n => rfl)
theorem s_BM_isWithin_h34_32  {a0 : Int32} {a1 : Int32} {a2 : Int32} {I : zI} {r : Int32} (hf : BM_isWithin a0 a1 a2 I = some r) (d : Nat) (hd : 0 ≤ d) : zCall d 109 [.int a0, .int a1, .int a2] (zSa34, zRa32, I) (some (.int r)) (zSa34, zRa32, I) := by
  rw [BM_isWithin] at hf
  show zEv _ _ _ (0, [some (.int a0), some (.int a1), some (.int a2)], []) _ _ _
  refine zEv_if 3 (c := a0 < a1) (f1 := (14, [some (.int a0), some (.int a1), some (.int a2)], [])) (f2 := (5, [some (.int a0), some (.int a1), some (.int a2)], [])) (h1 := (zSa34, zRa32, I)) (fun n => rfl) (fun hc => ?_) (fun hc => ?_)
  · rw [if_pos hc] at hf
    cases hf
    exact zEv_ret 2 (fun n => rfl)
  · rw [if_neg hc] at hf
    refine zEv_if 3 (c := a2 < a0) (f1 := (14, [some (.int a0), some (.int a1), some (.int a2)], [])) (f2 := (10, [some (.int a0), some (.int a1), some (.int a2)], [])) (h1 := (zSa34, zRa32, I)) (fun n => rfl) (fun hc => ?_) (fun hc => ?_)
    · rw [if_pos hc] at hf
      cases hf
      exact zEv_ret 2 (fun n => rfl)
    · rw [if_neg hc] at hf
      cases hf
      exact zEv_ret 3 (fun n => rfl)
theorem s_BM_isOne_h34_32  {a0 : Int32} {I : zI} {r : Int32} (hf : BM_isOne a0 I = some r) (d : Nat) (hd : 1 ≤ d) : zCall d 111 [.int a0] (zSa34, zRa32, I) (some (.int r)) (zSa34, zRa32, I) := by
  obtain ⟨d, rfl⟩ : ∃ e, d = e + 1 := ⟨d - 1, by omega⟩
  rw [BM_isOne] at hf
  show zEv _ _ _ (0, [some (.int a0)], []) _ _ _
  obtain ⟨x36, hx, hf⟩ := Option.bind_eq_some_iff.mp hf
  refine zEv_call 4 (N := 109) (vs := [.int a0, .int 0, .int 7]) (v1 := some (.int x36)) (h1 := (zSa34, zRa32, I)) (L := [some (.int a0)]) (rest := []) (pc := 7) (fun n => rfl) (s_BM_isWithin_h34_32 hx d (by omega)) rfl rfl ?_
  show zEv _ _ _ (7, [some (.int a0)], [.int x36]) _ _ _
  obtain ⟨hc, hf⟩ := zGd_inv hf
  cases hf
  exact zEv_rt hc 1 (fun n => rfl)
def Rw_put_29  (a0 : Int32) (a1 : Int32) (I : zI) : Option (zI) :=
  if a0 < 0 then
    some I
  else
    if 12 ≤ a0 then
      some I
    else
      if zIn a0 12 then
        some (zUp I 30 (Int32.toNatClampNeg a0) a1)
      else none
theorem s_Rw_put_29_h34_32  {a0 : Int32} {a1 : Int32} {I : zI} {I' : zI} (hf : Rw_put_29 a0 a1 I = some I') (d : Nat) (hd : 0 ≤ d) : zCall d 61 [.ref 29, .int a0, .int a1] (zSa34, zRa32, I) (none) (zSa34, zRa32, I') := by
  rw [Rw_put_29] at hf
  show zEv _ _ _ (0, [some (.ref 29), some (.int a0), some (.int a1)], []) _ _ _
  refine zEv_if 2 (c := a0 < 0) (f1 := (20, [some (.ref 29), some (.int a0), some (.int a1)], [])) (f2 := (4, [some (.ref 29), some (.int a0), some (.int a1)], [])) (h1 := (zSa34, zRa32, I)) (fun n => rfl) (fun hc => ?_) (fun hc => ?_)
  · rw [if_pos hc] at hf
    cases hf
    exact zEv_ret 1 (fun n => rfl)
  · rw [if_neg hc] at hf
    refine zEv_if 5 (c := 12 ≤ a0) (f1 := (20, [some (.ref 29), some (.int a0), some (.int a1)], [])) (f2 := (13, [some (.ref 29), some (.int a0), some (.int a1)], [])) (h1 := (zSa34, zRa32, I)) (fun n => rfl) (fun hc => ?_) (fun hc => ?_)
    · rw [if_pos hc] at hf
      cases hf
      exact zEv_ret 1 (fun n => rfl)
    · rw [if_neg hc] at hf
      obtain ⟨hc, hf⟩ := zGd_inv hf
      refine zEv_gd 5 (c := zIn a0 12) (f1 := (20, [some (.ref 29), some (.int a0), some (.int a1)], [])) (h1 := (zSa34, zRa32, (zUp I 30 (Int32.toNatClampNeg a0) a1))) (fun n => rfl) hc ?_
      cases hf
      exact zEv_ret 1 (fun n => rfl)
def ziGa_24_L94 : Nat → Int32 → zI → Option (zI)
  | 0, _, _ => none
  | n + 1, v1, I =>
    if 12 ≤ v1 then
      some I
    else
      (BM_isOne v1 I).bind fun x37 =>
      (
        if x37 = 0 then
          some (-6)
        else
          some v1 : Option (Int32)).bind fun x39 =>
      (Rw_put_29 v1 x39 I).bind fun I40 =>
      ziGa_24_L94 n (v1 + 1) I40
theorem s_ziGa_24_h24_22_L94 (d : Nat) (hd : 2 ≤ d) : ∀ (n : Nat) {v1 : Int32} {I : zI}  {I' : zI} {v : Option Value} {h' : zH}, ziGa_24_L94 n v1 I = some I' → zEv none d 9 (127, [some (.ref 24), none], []) (zSa34, zRa32, I') v h' → zEv none d 9 (94, [some (.ref 24), some (.int v1)], []) (zSa34, zRa32, I) v h' := by
  obtain ⟨d, rfl⟩ : ∃ e, d = e + 1 := ⟨d - 1, by omega⟩
  intro n
  induction n with
  | zero => intros; rename_i hf _; cases hf
  | succ n ih =>
    intro v1 I I' v h' hf kk
    rw [ziGa_24_L94] at hf
    refine zEv_if 3 (c := 12 ≤ v1) (f1 := (127, [some (.ref 24), some (.int v1)], [])) (f2 := (100, [some (.ref 24), some (.int v1)], [])) (h1 := (zSa34, zRa32, I)) (fun n => rfl) (fun hc => ?_) (fun hc => ?_)
    · rw [if_pos hc] at hf
      obtain rfl := Option.some.inj hf
      exact zEv_weak (L := [some (.ref 24), none]) (by exact ⟨rfl, ⟨rfl, trivial⟩⟩) kk
    · rw [if_neg hc] at hf
      obtain ⟨x37, hx, hf⟩ := Option.bind_eq_some_iff.mp hf
      refine zEv_call 5 (N := 111) (vs := [.int v1]) (v1 := some (.int x37)) (h1 := (zSa34, zRa32, I)) (L := [some (.ref 24), some (.int v1)]) (rest := [.int v1, .ref 29]) (pc := 109) (fun n => rfl) (s_BM_isOne_h34_32 hx d (by omega)) rfl rfl ?_
      show zEv _ _ _ (109, [some (.ref 24), some (.int v1)], [.int x37, .int v1, .ref 29]) _ _ _
      obtain ⟨x39, hm_m38, hf⟩ := Option.bind_eq_some_iff.mp hf
      have hJ_m38 : zEv none (d + 1) 9 (118, [some (.ref 24), some (.int v1)], [.int x39, .int v1, .ref 29]) ((zSa34, zRa32, I)) v h' := by
        obtain ⟨I40, hx, hf⟩ := Option.bind_eq_some_iff.mp hf
        refine zEv_call 1 (N := 61) (vs := [.ref 29, .int v1, .int x39]) (v1 := none) (h1 := (zSa34, zRa32, I40)) (L := [some (.ref 24), some (.int v1)]) (rest := []) (pc := 121) (fun n => rfl) (s_Rw_put_29_h34_32 hx d (by omega)) rfl rfl ?_
        show zEv _ _ _ (121, [some (.ref 24), some (.int v1)], []) _ _ _
        refine zEv_go 2 (f1 := (94, [some (.ref 24), some (.int (v1 + 1))], [])) (h1 := (zSa34, zRa32, I40)) (fun n => rfl) ?_
        refine zEv_weak (L := [some (.ref 24), some (.int (v1 + 1))]) (by exact ⟨rfl, ⟨rfl, trivial⟩⟩) ?_
        exact ih hf kk
      clear hf
      refine zEv_if 1 (c := x37 = 0) (f1 := (116, [some (.ref 24), some (.int v1)], [.int v1, .ref 29])) (f2 := (112, [some (.ref 24), some (.int v1)], [.int v1, .ref 29])) (h1 := (zSa34, zRa32, I)) (fun n => rfl) (fun hc => ?_) (fun hc => ?_)
      · rw [if_pos hc] at hm_m38
        obtain rfl := Option.some.inj hm_m38
        refine zEv_go 1 (f1 := (118, [some (.ref 24), some (.int v1)], [.int (-6), .int v1, .ref 29])) (h1 := (zSa34, zRa32, I)) (fun n => rfl) ?_
        exact zEv_weak (L := [some (.ref 24), some (.int v1)]) (by exact ⟨rfl, ⟨rfl, trivial⟩⟩) hJ_m38
      · rw [if_neg hc] at hm_m38
        obtain rfl := Option.some.inj hm_m38
        refine zEv_go 2 (f1 := (118, [some (.ref 24), some (.int v1)], [.int v1, .int v1, .ref 29])) (h1 := (zSa34, zRa32, I)) (fun n => rfl) ?_
        exact zEv_weak (L := [some (.ref 24), some (.int v1)]) (by exact ⟨rfl, ⟨rfl, trivial⟩⟩) hJ_m38
def ziGa_24_L71 : Nat → Int32 → zI → Option (zI)
  | 0, _, _ => none
  | n + 1, v1, I =>
    if 8 ≤ v1 then
      some I
    else
      (Rw_put_27 v1 v1 I).bind fun I34 =>
      ziGa_24_L71 n (v1 + 1) I34
theorem s_ziGa_24_h24_22_L71 (d : Nat) (hd : 2 ≤ d) : ∀ (n : Nat) {v1 : Int32} {I : zI}  {I' : zI} {v : Option Value} {h' : zH}, ziGa_24_L71 n v1 I = some I' → zEv none d 9 (92, [some (.ref 24), none], []) (zSa34, zRa32, I') v h' → zEv none d 9 (71, [some (.ref 24), some (.int v1)], []) (zSa34, zRa32, I) v h' := by
  obtain ⟨d, rfl⟩ : ∃ e, d = e + 1 := ⟨d - 1, by omega⟩
  intro n
  induction n with
  | zero => intros; rename_i hf _; cases hf
  | succ n ih =>
    intro v1 I I' v h' hf kk
    rw [ziGa_24_L71] at hf
    refine zEv_if 3 (c := 8 ≤ v1) (f1 := (92, [some (.ref 24), some (.int v1)], [])) (f2 := (77, [some (.ref 24), some (.int v1)], [])) (h1 := (zSa34, zRa32, I)) (fun n => rfl) (fun hc => ?_) (fun hc => ?_)
    · rw [if_pos hc] at hf
      obtain rfl := Option.some.inj hf
      exact zEv_weak (L := [some (.ref 24), none]) (by exact ⟨rfl, ⟨rfl, trivial⟩⟩) kk
    · rw [if_neg hc] at hf
      obtain ⟨I34, hx, hf⟩ := Option.bind_eq_some_iff.mp hf
      refine zEv_call 5 (N := 61) (vs := [.ref 27, .int v1, .int v1]) (v1 := none) (h1 := (zSa34, zRa32, I34)) (L := [some (.ref 24), some (.int v1)]) (rest := []) (pc := 86) (fun n => rfl) (s_Rw_put_27_h34_32 hx d (by omega)) rfl rfl ?_
      show zEv _ _ _ (86, [some (.ref 24), some (.int v1)], []) _ _ _
      refine zEv_go 2 (f1 := (71, [some (.ref 24), some (.int (v1 + 1))], [])) (h1 := (zSa34, zRa32, I34)) (fun n => rfl) ?_
      refine zEv_weak (L := [some (.ref 24), some (.int (v1 + 1))]) (by exact ⟨rfl, ⟨rfl, trivial⟩⟩) ?_
      exact ih hf kk
def ziGa_24 (n : Nat) (I : zI) : Option (zI) :=
  (ziRw_25 (zRow I 25 (fun _ => 0))).bind fun I29 =>
  (ziRw_27 (zRow I29 27 (fun _ => 0))).bind fun I30 =>
  (ziRw_29 (zRow I30 29 (fun _ => 0))).bind fun I31 =>
  (ziRw_31 (zRow I31 31 (fun _ => 0))).bind fun I32 =>
  (ziRw_33 (zRow I32 33 (fun _ => 0))).bind fun I33 =>
  (ziGa_24_L71 n 0 I33).bind fun I35 =>
  (ziGa_24_L94 n 0 I35).bind fun I41 =>
  some I41
theorem s_ziGa_24_h24_22 {n : Nat} {I : zI} {I' : zI} (hf : ziGa_24 n I = some I') (d : Nat) (hd : 2 ≤ d) : zCall d 9 [.ref 24] (zSa24, zRa22, I) (none) (zSa34, zRa32, I') := by
  obtain ⟨d, rfl⟩ : ∃ e, d = e + 1 := ⟨d - 1, by omega⟩
  rw [ziGa_24] at hf
  show zEv _ _ _ (0, [some (.ref 24), none], []) _ _ _
  refine zEv_gd 4 (c := zVs 24 [some (.ref 24), none] [.ref 24] = true ∧ zHok (zSa24, zRa22, I) = true) (f1 := (8, [some (.ref 24), none], [.ref 25, .ref 24])) (h1 := (zSa25, zRa22, (zRow I 25 (fun _ => 0)))) (fun n => rfl) ⟨rfl, zHk_24_22 _⟩ ?_
  obtain ⟨I29, hx, hf⟩ := Option.bind_eq_some_iff.mp hf
  refine zEv_calln 3 (N := 59) (vs := [.ref 25, .int 10]) (v1 := none) (h1 := (zSa26, zRa23, I29)) (L := [some (.ref 24), none]) (rest := [.ref 25, .ref 24]) (pc := 14) (fun n => rfl) (s_ziRw_25_h25_22 hx d (by omega)) rfl rfl ?_
  show zEv _ _ _ (14, [some (.ref 24), none], [.ref 25, .ref 24]) _ _ _
  refine zEv_gd 3 (c := zVs 26 [some (.ref 24), none] [.ref 24] = true ∧ zHok (zSa26, zRa24, I29) = true) (f1 := (21, [some (.ref 24), none], [.ref 27, .ref 24])) (h1 := (zSa27, zRa24, (zRow I29 27 (fun _ => 0)))) (fun n => rfl) ⟨rfl, zHk_26_24 _⟩ ?_
  obtain ⟨I30, hx, hf⟩ := Option.bind_eq_some_iff.mp hf
  refine zEv_calln 3 (N := 59) (vs := [.ref 27, .int 8]) (v1 := none) (h1 := (zSa28, zRa25, I30)) (L := [some (.ref 24), none]) (rest := [.ref 27, .ref 24]) (pc := 27) (fun n => rfl) (s_ziRw_27_h27_24 hx d (by omega)) rfl rfl ?_
  show zEv _ _ _ (27, [some (.ref 24), none], [.ref 27, .ref 24]) _ _ _
  refine zEv_gd 3 (c := zVs 28 [some (.ref 24), none] [.ref 24] = true ∧ zHok (zSa28, zRa26, I30) = true) (f1 := (34, [some (.ref 24), none], [.ref 29, .ref 24])) (h1 := (zSa29, zRa26, (zRow I30 29 (fun _ => 0)))) (fun n => rfl) ⟨rfl, zHk_28_26 _⟩ ?_
  obtain ⟨I31, hx, hf⟩ := Option.bind_eq_some_iff.mp hf
  refine zEv_calln 3 (N := 59) (vs := [.ref 29, .int 12]) (v1 := none) (h1 := (zSa30, zRa27, I31)) (L := [some (.ref 24), none]) (rest := [.ref 29, .ref 24]) (pc := 40) (fun n => rfl) (s_ziRw_29_h29_26 hx d (by omega)) rfl rfl ?_
  show zEv _ _ _ (40, [some (.ref 24), none], [.ref 29, .ref 24]) _ _ _
  refine zEv_gd 3 (c := zVs 30 [some (.ref 24), none] [.ref 24] = true ∧ zHok (zSa30, zRa28, I31) = true) (f1 := (47, [some (.ref 24), none], [.ref 31, .ref 24])) (h1 := (zSa31, zRa28, (zRow I31 31 (fun _ => 0)))) (fun n => rfl) ⟨rfl, zHk_30_28 _⟩ ?_
  obtain ⟨I32, hx, hf⟩ := Option.bind_eq_some_iff.mp hf
  refine zEv_calln 3 (N := 59) (vs := [.ref 31, .int 12]) (v1 := none) (h1 := (zSa32, zRa29, I32)) (L := [some (.ref 24), none]) (rest := [.ref 31, .ref 24]) (pc := 53) (fun n => rfl) (s_ziRw_31_h31_28 hx d (by omega)) rfl rfl ?_
  show zEv _ _ _ (53, [some (.ref 24), none], [.ref 31, .ref 24]) _ _ _
  refine zEv_gd 3 (c := zVs 32 [some (.ref 24), none] [.ref 24] = true ∧ zHok (zSa32, zRa30, I32) = true) (f1 := (60, [some (.ref 24), none], [.ref 33, .ref 24])) (h1 := (zSa33, zRa30, (zRow I32 33 (fun _ => 0)))) (fun n => rfl) ⟨rfl, zHk_32_30 _⟩ ?_
  obtain ⟨I33, hx, hf⟩ := Option.bind_eq_some_iff.mp hf
  refine zEv_calln 3 (N := 59) (vs := [.ref 33, .int 8]) (v1 := none) (h1 := (zSa34, zRa31, I33)) (L := [some (.ref 24), none]) (rest := [.ref 33, .ref 24]) (pc := 66) (fun n => rfl) (s_ziRw_33_h33_30 hx d (by omega)) rfl rfl ?_
  show zEv _ _ _ (66, [some (.ref 24), none], [.ref 33, .ref 24]) _ _ _
  obtain ⟨I35, hx, hf⟩ := Option.bind_eq_some_iff.mp hf
  refine zEv_go 3 (f1 := (71, [some (.ref 24), some (.int 0)], [])) (h1 := (zSa34, zRa32, I33)) (fun n => rfl) ?_
  refine zEv_weak (L := [some (.ref 24), some (.int 0)]) (by exact ⟨rfl, ⟨rfl, trivial⟩⟩) (s_ziGa_24_h24_22_L71 (d + 1) (by omega) n hx ?_)
  obtain ⟨I41, hx, hf⟩ := Option.bind_eq_some_iff.mp hf
  refine zEv_go 2 (f1 := (94, [some (.ref 24), some (.int 0)], [])) (h1 := (zSa34, zRa32, I35)) (fun n => rfl) ?_
  refine zEv_weak (L := [some (.ref 24), some (.int 0)]) (by exact ⟨rfl, ⟨rfl, trivial⟩⟩) (s_ziGa_24_h24_22_L94 (d + 1) (by omega) n hx ?_)
  cases hf
  exact zEv_ret 1 (fun n => rfl)
def ziRw_36  (I : zI) : Option (zI) :=
  some (zRow I 37 (fun _ => 0))
theorem s_ziRw_36_h36_33  {I : zI} {I' : zI} (hf : ziRw_36 I = some I') (d : Nat) (hd : 1 ≤ d) : zCall d 59 [.ref 36, .int 60] (zSa36, zRa33, I) (none) (zSa37, zRa34, I') := by
  obtain ⟨d, rfl⟩ : ∃ e, d = e + 1 := ⟨d - 1, by omega⟩
  rw [ziRw_36] at hf
  show zEv _ _ _ (0, [some (.ref 36), some (.int 60)], []) _ _ _
  refine zEv_gd 7 (c := ¬ (60 : Int32) < 0 ∧ Int32.toNatClampNeg 60 ≤ 100000 ∧ zVs 36 [some (.ref 36), some (.int 60)] [.ref 36] = true ∧ zHok (zSa36, zRa33, I) = true) (f1 := (12, [some (.ref 36), some (.int 60)], [.ref 37, .ref 36])) (h1 := (zSa37, zRa33, (zRow I 37 (fun _ => 0)))) (fun n => rfl) ⟨by decide, by decide, rfl, zHk_36_33 _⟩ ?_
  cases hf
  exact zEv_ret 2 (fun n => rfl)
def ziPa_35  (I : zI) : Option (zI) :=
  (ziRw_36 (zRow I 36 (fun _ => 0))).bind fun I43 =>
  some I43
theorem s_ziPa_35_h35_33  {I : zI} {I' : zI} (hf : ziPa_35 I = some I') (d : Nat) (hd : 2 ≤ d) : zCall d 45 [.ref 35] (zSa35, zRa33, I) (none) (zSa37, zRa35, I') := by
  obtain ⟨d, rfl⟩ : ∃ e, d = e + 1 := ⟨d - 1, by omega⟩
  rw [ziPa_35] at hf
  show zEv _ _ _ (0, [some (.ref 35)], []) _ _ _
  refine zEv_gd 4 (c := zVs 35 [some (.ref 35)] [.ref 35] = true ∧ zHok (zSa35, zRa33, I) = true) (f1 := (8, [some (.ref 35)], [.ref 36, .ref 35])) (h1 := (zSa36, zRa33, (zRow I 36 (fun _ => 0)))) (fun n => rfl) ⟨rfl, zHk_35_33 _⟩ ?_
  obtain ⟨I43, hx, hf⟩ := Option.bind_eq_some_iff.mp hf
  refine zEv_calln 3 (N := 59) (vs := [.ref 36, .int 60]) (v1 := none) (h1 := (zSa37, zRa34, I43)) (L := [some (.ref 35)]) (rest := [.ref 36, .ref 35]) (pc := 14) (fun n => rfl) (s_ziRw_36_h36_33 hx d (by omega)) rfl rfl ?_
  show zEv _ _ _ (14, [some (.ref 35)], [.ref 36, .ref 35]) _ _ _
  cases hf
  exact zEv_ret 2 (fun n => rfl)
def ziRw_40  (I : zI) : Option (zI) :=
  some (zRow I 41 (fun _ => 0))
theorem s_ziRw_40_h40_36  {I : zI} {I' : zI} (hf : ziRw_40 I = some I') (d : Nat) (hd : 1 ≤ d) : zCall d 59 [.ref 40, .int 10] (zSa40, zRa36, I) (none) (zSa41, zRa37, I') := by
  obtain ⟨d, rfl⟩ : ∃ e, d = e + 1 := ⟨d - 1, by omega⟩
  rw [ziRw_40] at hf
  show zEv _ _ _ (0, [some (.ref 40), some (.int 10)], []) _ _ _
  refine zEv_gd 7 (c := ¬ (10 : Int32) < 0 ∧ Int32.toNatClampNeg 10 ≤ 100000 ∧ zVs 40 [some (.ref 40), some (.int 10)] [.ref 40] = true ∧ zHok (zSa40, zRa36, I) = true) (f1 := (12, [some (.ref 40), some (.int 10)], [.ref 41, .ref 40])) (h1 := (zSa41, zRa36, (zRow I 41 (fun _ => 0)))) (fun n => rfl) ⟨by decide, by decide, rfl, zHk_40_36 _⟩ ?_
  cases hf
  exact zEv_ret 2 (fun n => rfl)
def ziRw_42  (I : zI) : Option (zI) :=
  some (zRow I 43 (fun _ => 0))
theorem s_ziRw_42_h42_38  {I : zI} {I' : zI} (hf : ziRw_42 I = some I') (d : Nat) (hd : 1 ≤ d) : zCall d 59 [.ref 42, .int 8] (zSa42, zRa38, I) (none) (zSa43, zRa39, I') := by
  obtain ⟨d, rfl⟩ : ∃ e, d = e + 1 := ⟨d - 1, by omega⟩
  rw [ziRw_42] at hf
  show zEv _ _ _ (0, [some (.ref 42), some (.int 8)], []) _ _ _
  refine zEv_gd 7 (c := ¬ (8 : Int32) < 0 ∧ Int32.toNatClampNeg 8 ≤ 100000 ∧ zVs 42 [some (.ref 42), some (.int 8)] [.ref 42] = true ∧ zHok (zSa42, zRa38, I) = true) (f1 := (12, [some (.ref 42), some (.int 8)], [.ref 43, .ref 42])) (h1 := (zSa43, zRa38, (zRow I 43 (fun _ => 0)))) (fun n => rfl) ⟨by decide, by decide, rfl, zHk_42_38 _⟩ ?_
  cases hf
  exact zEv_ret 2 (fun n => rfl)
def ziRw_44  (I : zI) : Option (zI) :=
  some (zRow I 45 (fun _ => 0))
theorem s_ziRw_44_h44_40  {I : zI} {I' : zI} (hf : ziRw_44 I = some I') (d : Nat) (hd : 1 ≤ d) : zCall d 59 [.ref 44, .int 12] (zSa44, zRa40, I) (none) (zSa45, zRa41, I') := by
  obtain ⟨d, rfl⟩ : ∃ e, d = e + 1 := ⟨d - 1, by omega⟩
  rw [ziRw_44] at hf
  show zEv _ _ _ (0, [some (.ref 44), some (.int 12)], []) _ _ _
  refine zEv_gd 7 (c := ¬ (12 : Int32) < 0 ∧ Int32.toNatClampNeg 12 ≤ 100000 ∧ zVs 44 [some (.ref 44), some (.int 12)] [.ref 44] = true ∧ zHok (zSa44, zRa40, I) = true) (f1 := (12, [some (.ref 44), some (.int 12)], [.ref 45, .ref 44])) (h1 := (zSa45, zRa40, (zRow I 45 (fun _ => 0)))) (fun n => rfl) ⟨by decide, by decide, rfl, zHk_44_40 _⟩ ?_
  cases hf
  exact zEv_ret 2 (fun n => rfl)
def ziRw_46  (I : zI) : Option (zI) :=
  some (zRow I 47 (fun _ => 0))
theorem s_ziRw_46_h46_42  {I : zI} {I' : zI} (hf : ziRw_46 I = some I') (d : Nat) (hd : 1 ≤ d) : zCall d 59 [.ref 46, .int 12] (zSa46, zRa42, I) (none) (zSa47, zRa43, I') := by
  obtain ⟨d, rfl⟩ : ∃ e, d = e + 1 := ⟨d - 1, by omega⟩
  rw [ziRw_46] at hf
  show zEv _ _ _ (0, [some (.ref 46), some (.int 12)], []) _ _ _
  refine zEv_gd 7 (c := ¬ (12 : Int32) < 0 ∧ Int32.toNatClampNeg 12 ≤ 100000 ∧ zVs 46 [some (.ref 46), some (.int 12)] [.ref 46] = true ∧ zHok (zSa46, zRa42, I) = true) (f1 := (12, [some (.ref 46), some (.int 12)], [.ref 47, .ref 46])) (h1 := (zSa47, zRa42, (zRow I 47 (fun _ => 0)))) (fun n => rfl) ⟨by decide, by decide, rfl, zHk_46_42 _⟩ ?_
  cases hf
  exact zEv_ret 2 (fun n => rfl)
def ziRw_48  (I : zI) : Option (zI) :=
  some (zRow I 49 (fun _ => 0))
theorem s_ziRw_48_h48_44  {I : zI} {I' : zI} (hf : ziRw_48 I = some I') (d : Nat) (hd : 1 ≤ d) : zCall d 59 [.ref 48, .int 8] (zSa48, zRa44, I) (none) (zSa49, zRa45, I') := by
  obtain ⟨d, rfl⟩ : ∃ e, d = e + 1 := ⟨d - 1, by omega⟩
  rw [ziRw_48] at hf
  show zEv _ _ _ (0, [some (.ref 48), some (.int 8)], []) _ _ _
  refine zEv_gd 7 (c := ¬ (8 : Int32) < 0 ∧ Int32.toNatClampNeg 8 ≤ 100000 ∧ zVs 48 [some (.ref 48), some (.int 8)] [.ref 48] = true ∧ zHok (zSa48, zRa44, I) = true) (f1 := (12, [some (.ref 48), some (.int 8)], [.ref 49, .ref 48])) (h1 := (zSa49, zRa44, (zRow I 49 (fun _ => 0)))) (fun n => rfl) ⟨by decide, by decide, rfl, zHk_48_44 _⟩ ?_
  cases hf
  exact zEv_ret 2 (fun n => rfl)
theorem s_Rw_put_42_h49_46  {a0 : Int32} {a1 : Int32} {I : zI} {I' : zI} (hf : Rw_put_42 a0 a1 I = some I') (d : Nat) (hd : 0 ≤ d) : zCall d 61 [.ref 42, .int a0, .int a1] (zSa49, zRa46, I) (none) (zSa49, zRa46, I') := by
  rw [Rw_put_42] at hf
  show zEv _ _ _ (0, [some (.ref 42), some (.int a0), some (.int a1)], []) _ _ _
  refine zEv_if 2 (c := a0 < 0) (f1 := (20, [some (.ref 42), some (.int a0), some (.int a1)], [])) (f2 := (4, [some (.ref 42), some (.int a0), some (.int a1)], [])) (h1 := (zSa49, zRa46, I)) (fun n => rfl) (fun hc => ?_) (fun hc => ?_)
  · rw [if_pos hc] at hf
    cases hf
    exact zEv_ret 1 (fun n => rfl)
  · rw [if_neg hc] at hf
    refine zEv_if 5 (c := 8 ≤ a0) (f1 := (20, [some (.ref 42), some (.int a0), some (.int a1)], [])) (f2 := (13, [some (.ref 42), some (.int a0), some (.int a1)], [])) (h1 := (zSa49, zRa46, I)) (fun n => rfl) (fun hc => ?_) (fun hc => ?_)
    · rw [if_pos hc] at hf
      cases hf
      exact zEv_ret 1 (fun n => rfl)
    · rw [if_neg hc] at hf
      obtain ⟨hc, hf⟩ := zGd_inv hf
      refine zEv_gd 5 (c := zIn a0 8) (f1 := (20, [some (.ref 42), some (.int a0), some (.int a1)], [])) (h1 := (zSa49, zRa46, (zUp I 43 (Int32.toNatClampNeg a0) a1))) (fun n => rfl) hc ?_
      cases hf
      exact zEv_ret 1 (fun n => rfl)
