def Rw_at_7  (a0 : Int32) (I : zI) : Option (Int32) :=
  if a0 < 0 then
    some (-6)
  else
    if 12 ≤ a0 then
      some (-6)
    else
      if zIn a0 12 then
        some (I 8 (Int32.toNatClampNeg a0))
      else none
theorem s_Rw_at_7  {a0 : Int32} {I : zI} {r : Int32} (hf : Rw_at_7 a0 I = some r) (d : Nat) (hd : 0 ≤ d) : zCall d 60 [.ref 7, .int a0] (zHp I) (some (.int r)) (zHp I) := by
  rw [Rw_at_7] at hf
  show zEv _ _ _ (0, [some (.ref 7), some (.int a0)], []) _ _ _
  refine zEv_if 2 (c := a0 < 0) (f1 := (22, [some (.ref 7), some (.int a0)], [])) (f2 := (4, [some (.ref 7), some (.int a0)], [])) (h1 := zHp I) (fun n => rfl) (fun hc => ?_) (fun hc => ?_)
  · rw [if_pos hc] at hf
    cases hf
    exact zEv_ret 2 (fun n => rfl)
  · rw [if_neg hc] at hf
    refine zEv_if 5 (c := 12 ≤ a0) (f1 := (22, [some (.ref 7), some (.int a0)], [])) (f2 := (13, [some (.ref 7), some (.int a0)], [])) (h1 := zHp I) (fun n => rfl) (fun hc => ?_) (fun hc => ?_)
    · rw [if_pos hc] at hf
      cases hf
      exact zEv_ret 2 (fun n => rfl)
    · rw [if_neg hc] at hf
      obtain ⟨hc, hf⟩ := zGd_inv hf
      refine zEv_gd 4 (c := zIn a0 12) (f1 := (19, [some (.ref 7), some (.int a0)], [.int (I 8 (Int32.toNatClampNeg a0))])) (h1 := zHp I) (fun n => rfl) hc ?_
      cases hf
      exact zEv_ret 2 (fun n => rfl)
def Ga_memoryAt_2_L2 : Nat → Int32 → Int32 → zI → Option (Int32)
  | 0, _, _, _ => none
  | n + 1, v1, v2, I =>
    if 12 ≤ v2 then
      some (-6)
    else
      (Rw_at_7 v2 I).bind fun x29 =>
      if x29 = v1 then
        some v2
      else
        Ga_memoryAt_2_L2 n v1 (v2 + 1) I
theorem s_Ga_memoryAt_2_L2 (d : Nat) (hd : 1 ≤ d) : ∀ (n : Nat) {v1 : Int32} {v2 : Int32} {I : zI} {r : Int32}, Ga_memoryAt_2_L2 n v1 v2 I = some r → zEv none d 22 (2, [some (.ref 2), some (.int v1), some (.int v2)], []) (zHp I) (some (.int r)) (zHp I) := by
  obtain ⟨d, rfl⟩ : ∃ e, d = e + 1 := ⟨d - 1, by omega⟩
  intro n
  induction n with
  | zero => intros; rename_i hf; cases hf
  | succ n ih =>
    intro v1 v2 I r hf
    rw [Ga_memoryAt_2_L2] at hf
    refine zEv_if 3 (c := 12 ≤ v2) (f1 := (28, [some (.ref 2), some (.int v1), some (.int v2)], [])) (f2 := (8, [some (.ref 2), some (.int v1), some (.int v2)], [])) (h1 := zHp I) (fun n => rfl) (fun hc => ?_) (fun hc => ?_)
    · rw [if_pos hc] at hf
      cases hf
      exact zEv_ret 2 (fun n => rfl)
    · rw [if_neg hc] at hf
      obtain ⟨x29, hx, hf⟩ := Option.bind_eq_some_iff.mp hf
      refine zEv_call 4 (N := 60) (vs := [.ref 7, .int v2]) (v1 := some (.int x29)) (h1 := zHp I) (L := [some (.ref 2), some (.int v1), some (.int v2)]) (rest := []) (pc := 16) (fun n => rfl) (s_Rw_at_7 hx _ (by omega)) rfl rfl ?_
      show zEv _ _ _ (16, [some (.ref 2), some (.int v1), some (.int v2)], [.int x29]) _ _ _
      refine zEv_if 2 (c := x29 = v1) (f1 := (20, [some (.ref 2), some (.int v1), some (.int v2)], [])) (f2 := (22, [some (.ref 2), some (.int v1), some (.int v2)], [])) (h1 := zHp I) (fun n => rfl) (fun hc => ?_) (fun hc => ?_)
      · rw [if_pos hc] at hf
        cases hf
        exact zEv_ret 2 (fun n => rfl)
      · rw [if_neg hc] at hf
        refine zEv_go 2 (f1 := (2, [some (.ref 2), some (.int v1), some (.int (v2 + 1))], [])) (h1 := zHp I) (fun n => rfl) ?_
        refine zEv_weak (L := [some (.ref 2), some (.int v1), some (.int (v2 + 1))]) (by exact ⟨rfl, ⟨rfl, ⟨rfl, trivial⟩⟩⟩) ?_
        exact ih hf
def Ga_memoryAt_2 (n : Nat) (a0 : Int32) (I : zI) : Option (Int32) :=
  Ga_memoryAt_2_L2 n a0 0 I
theorem s_Ga_memoryAt_2 {n : Nat} {a0 : Int32} {I : zI} {r : Int32} (hf : Ga_memoryAt_2 n a0 I = some r) (d : Nat) (hd : 1 ≤ d) : zCall d 22 [.ref 2, .int a0] (zHp I) (some (.int r)) (zHp I) := by
  obtain ⟨d, rfl⟩ : ∃ e, d = e + 1 := ⟨d - 1, by omega⟩
  rw [Ga_memoryAt_2] at hf
  show zEv _ _ _ (0, [some (.ref 2), some (.int a0), none], []) _ _ _
  refine zEv_go 2 (f1 := (2, [some (.ref 2), some (.int a0), some (.int 0)], [])) (h1 := zHp I) (fun n => rfl) ?_
  exact zEv_weak (L := [some (.ref 2), some (.int a0), some (.int 0)]) (by exact ⟨rfl, ⟨rfl, ⟨rfl, trivial⟩⟩⟩) (s_Ga_memoryAt_2_L2 _ (by omega) n hf)
