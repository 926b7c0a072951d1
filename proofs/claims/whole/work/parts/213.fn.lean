set_option maxRecDepth 100000
def Mo_ask_L50 : Nat → Int32 → Int32 → Int32 → Int32 → Int32 → Int32 → zI → Option (Int32 × Int32)
  | 0, _, _, _, _, _, _, _ => none
  | n + 1, v1, v2, v3, v4, v5, v6, I =>
    if 8 ≤ v6 then
      some (v3, v4)
    else
      if zIn v6 8 then
        if zIn v6 8 then
          (
            if (I 91 (Int32.toNatClampNeg v6)) ≤ (v2 - (I 91 (Int32.toNatClampNeg v6))) then
              if zIn v6 8 then
                some (v2 - (I 91 (Int32.toNatClampNeg v6)))
              else none
            else
              if zIn v6 8 then
                some (I 91 (Int32.toNatClampNeg v6))
              else none : Option (Int32)).bind fun x721 =>
          (
            if v4 ≤ x721 then
              some v3
            else
              some ((10 * v5) + v6) : Option (Int32)).bind fun x723 =>
          (
            if v4 ≤ x721 then
              some v4
            else
              some x721 : Option (Int32)).bind fun x725 =>
          Mo_ask_L50 n v1 v2 x723 x725 v5 (v6 + 1) I
        else none
      else none
theorem s_Mo_ask_L50 (d : Nat) (hd : 3 ≤ d) : ∀ (n : Nat) {v1 : Int32} {v2 : Int32} {v3 : Int32} {v4 : Int32} {v5 : Int32} {v6 : Int32} {I : zI} {y3 : Int32} {y4 : Int32} {v : Option Value} {h' : zH}, Mo_ask_L50 n v1 v2 v3 v4 v5 v6 I = some (y3, y4) → zEv none d 176 (139, [some (.ref 73), some (.int v1), some (.int v2), some (.int y3), some (.int y4), some (.int v5), none, none], []) (zHp I) v h' → zEv none d 176 (50, [some (.ref 73), some (.int v1), some (.int v2), some (.int v3), some (.int v4), some (.int v5), some (.int v6), none], []) (zHp I) v h' := by
  obtain ⟨d, rfl⟩ : ∃ e, d = e + 1 := ⟨d - 1, by omega⟩
  intro n
  induction n with
  | zero => intros; rename_i hf _; cases hf
  | succ n ih =>
    intro v1 v2 v3 v4 v5 v6 I y3 y4 v h' hf kk
    rw [Mo_ask_L50] at hf
    refine zEv_if 3 (c := 8 ≤ v6) (f1 := (139, [some (.ref 73), some (.int v1), some (.int v2), some (.int v3), some (.int v4), some (.int v5), some (.int v6), none], [])) (f2 := (57, [some (.ref 73), some (.int v1), some (.int v2), some (.int v3), some (.int v4), some (.int v5), some (.int v6), none], [])) (h1 := zHp I) (fun n => rfl) (fun hc => ?_) (fun hc => ?_)
    · rw [if_pos hc] at hf
      have hq0 := Option.some.inj hf
      obtain ⟨he0, hq1⟩ := Prod.mk.inj hq0
      subst he0
      subst hq1
      exact zEv_weak (L := [some (.ref 73), some (.int v1), some (.int v2), some (.int v3), some (.int v4), some (.int v5), none, none]) (by exact ⟨rfl, ⟨rfl, ⟨rfl, ⟨rfl, ⟨rfl, ⟨rfl, ⟨rfl, ⟨rfl, trivial⟩⟩⟩⟩⟩⟩⟩⟩) kk
    · rw [if_neg hc] at hf
      obtain ⟨hc, hf⟩ := zGd_inv hf
      refine zEv_gd 4 (c := zIn v6 8) (f1 := (64, [some (.ref 73), some (.int v1), some (.int v2), some (.int v3), some (.int v4), some (.int v5), some (.int v6), none], [.int (I 91 (Int32.toNatClampNeg v6))])) (h1 := zHp I) (fun n => rfl) hc ?_
      obtain ⟨hc, hf⟩ := zGd_inv hf
      refine zEv_gd 5 (c := zIn v6 8) (f1 := (72, [some (.ref 73), some (.int v1), some (.int v2), some (.int v3), some (.int v4), some (.int v5), some (.int v6), none], [.int (I 91 (Int32.toNatClampNeg v6)), .int v2, .int (I 91 (Int32.toNatClampNeg v6))])) (h1 := zHp I) (fun n => rfl) hc ?_
      obtain ⟨x721, hm_m720, hf⟩ := Option.bind_eq_some_iff.mp hf
      have hJ_m720 : zEv none (d + 1) 176 (95, [some (.ref 73), some (.int v1), some (.int v2), some (.int v3), some (.int v4), some (.int v5), some (.int v6), none], [.int x721]) (zHp I) v h' := by
        obtain ⟨x723, hm_m722, hf⟩ := Option.bind_eq_some_iff.mp hf
        have hJ_m722 : zEv none (d + 1) 176 (116, [some (.ref 73), some (.int v1), some (.int v2), none, some (.int v4), some (.int v5), some (.int v6), some (.int x721)], [.int x723]) (zHp I) v h' := by
          obtain ⟨x725, hm_m724, hf⟩ := Option.bind_eq_some_iff.mp hf
          have hJ_m724 : zEv none (d + 1) 176 (131, [some (.ref 73), some (.int v1), some (.int v2), some (.int x723), none, some (.int v5), some (.int v6), none], [.int x725]) (zHp I) v h' := by
            refine zEv_go 3 (f1 := (50, [some (.ref 73), some (.int v1), some (.int v2), some (.int x723), some (.int x725), some (.int v5), some (.int (v6 + 1)), none], [])) (h1 := zHp I) (fun n => rfl) ?_
            refine zEv_weak (L := [some (.ref 73), some (.int v1), some (.int v2), some (.int x723), some (.int x725), some (.int v5), some (.int (v6 + 1)), none]) (by exact ⟨rfl, ⟨rfl, ⟨rfl, ⟨rfl, ⟨rfl, ⟨rfl, ⟨rfl, ⟨rfl, trivial⟩⟩⟩⟩⟩⟩⟩⟩) ?_
            exact ih hf kk
          clear hf
          refine zEv_if 4 (c := v4 ≤ x721) (f1 := (129, [some (.ref 73), some (.int v1), some (.int v2), some (.int x723), some (.int v4), some (.int v5), some (.int v6), some (.int x721)], [])) (f2 := (124, [some (.ref 73), some (.int v1), some (.int v2), some (.int x723), some (.int v4), some (.int v5), some (.int v6), some (.int x721)], [])) (h1 := zHp I) (fun n => rfl) (fun hc => ?_) (fun hc => ?_)
          · rw [if_pos hc] at hm_m724
            obtain rfl := Option.some.inj hm_m724
            refine zEv_go 1 (f1 := (131, [some (.ref 73), some (.int v1), some (.int v2), some (.int x723), some (.int v4), some (.int v5), some (.int v6), some (.int x721)], [.int v4])) (h1 := zHp I) (fun n => rfl) ?_
            exact zEv_weak (L := [some (.ref 73), some (.int v1), some (.int v2), some (.int x723), none, some (.int v5), some (.int v6), none]) (by exact ⟨rfl, ⟨rfl, ⟨rfl, ⟨rfl, ⟨rfl, ⟨rfl, ⟨rfl, ⟨rfl, trivial⟩⟩⟩⟩⟩⟩⟩⟩) hJ_m724
          · rw [if_neg hc] at hm_m724
            obtain rfl := Option.some.inj hm_m724
            refine zEv_go 2 (f1 := (131, [some (.ref 73), some (.int v1), some (.int v2), some (.int x723), some (.int v4), some (.int v5), some (.int v6), some (.int x721)], [.int x721])) (h1 := zHp I) (fun n => rfl) ?_
            exact zEv_weak (L := [some (.ref 73), some (.int v1), some (.int v2), some (.int x723), none, some (.int v5), some (.int v6), none]) (by exact ⟨rfl, ⟨rfl, ⟨rfl, ⟨rfl, ⟨rfl, ⟨rfl, ⟨rfl, ⟨rfl, trivial⟩⟩⟩⟩⟩⟩⟩⟩) hJ_m724
        clear hf
        refine zEv_if 4 (c := v4 ≤ x721) (f1 := (115, [some (.ref 73), some (.int v1), some (.int v2), some (.int v3), some (.int v4), some (.int v5), some (.int v6), some (.int x721)], [])) (f2 := (104, [some (.ref 73), some (.int v1), some (.int v2), some (.int v3), some (.int v4), some (.int v5), some (.int v6), some (.int x721)], [])) (h1 := zHp I) (fun n => rfl) (fun hc => ?_) (fun hc => ?_)
        · rw [if_pos hc] at hm_m722
          obtain rfl := Option.some.inj hm_m722
          refine zEv_go 1 (f1 := (116, [some (.ref 73), some (.int v1), some (.int v2), some (.int v3), some (.int v4), some (.int v5), some (.int v6), some (.int x721)], [.int v3])) (h1 := zHp I) (fun n => rfl) ?_
          exact zEv_weak (L := [some (.ref 73), some (.int v1), some (.int v2), none, some (.int v4), some (.int v5), some (.int v6), some (.int x721)]) (by exact ⟨rfl, ⟨rfl, ⟨rfl, ⟨rfl, ⟨rfl, ⟨rfl, ⟨rfl, ⟨rfl, trivial⟩⟩⟩⟩⟩⟩⟩⟩) hJ_m722
        · rw [if_neg hc] at hm_m722
          obtain rfl := Option.some.inj hm_m722
          refine zEv_go 6 (f1 := (116, [some (.ref 73), some (.int v1), some (.int v2), some (.int v3), some (.int v4), some (.int v5), some (.int v6), some (.int x721)], [.int ((10 * v5) + v6)])) (h1 := zHp I) (fun n => rfl) ?_
          exact zEv_weak (L := [some (.ref 73), some (.int v1), some (.int v2), none, some (.int v4), some (.int v5), some (.int v6), some (.int x721)]) (by exact ⟨rfl, ⟨rfl, ⟨rfl, ⟨rfl, ⟨rfl, ⟨rfl, ⟨rfl, ⟨rfl, trivial⟩⟩⟩⟩⟩⟩⟩⟩) hJ_m722
      clear hf
      refine zEv_if 2 (c := (I 91 (Int32.toNatClampNeg v6)) ≤ (v2 - (I 91 (Int32.toNatClampNeg v6)))) (f1 := (86, [some (.ref 73), some (.int v1), some (.int v2), some (.int v3), some (.int v4), some (.int v5), some (.int v6), none], [])) (f2 := (76, [some (.ref 73), some (.int v1), some (.int v2), some (.int v3), some (.int v4), some (.int v5), some (.int v6), none], [])) (h1 := zHp I) (fun n => rfl) (fun hc => ?_) (fun hc => ?_)
      · rw [if_pos hc] at hm_m720
        obtain ⟨hc, hm_m720⟩ := zGd_inv hm_m720
        refine zEv_gd 5 (c := zIn v6 8) (f1 := (94, [some (.ref 73), some (.int v1), some (.int v2), some (.int v3), some (.int v4), some (.int v5), some (.int v6), none], [.int (I 91 (Int32.toNatClampNeg v6)), .int v2])) (h1 := zHp I) (fun n => rfl) hc ?_
        obtain rfl := Option.some.inj hm_m720
        refine zEv_go 1 (f1 := (95, [some (.ref 73), some (.int v1), some (.int v2), some (.int v3), some (.int v4), some (.int v5), some (.int v6), none], [.int (v2 - (I 91 (Int32.toNatClampNeg v6)))])) (h1 := zHp I) (fun n => rfl) ?_
        exact zEv_weak (L := [some (.ref 73), some (.int v1), some (.int v2), some (.int v3), some (.int v4), some (.int v5), some (.int v6), none]) (by exact ⟨rfl, ⟨rfl, ⟨rfl, ⟨rfl, ⟨rfl, ⟨rfl, ⟨rfl, ⟨rfl, trivial⟩⟩⟩⟩⟩⟩⟩⟩) hJ_m720
      · rw [if_neg hc] at hm_m720
        obtain ⟨hc, hm_m720⟩ := zGd_inv hm_m720
        refine zEv_gd 4 (c := zIn v6 8) (f1 := (83, [some (.ref 73), some (.int v1), some (.int v2), some (.int v3), some (.int v4), some (.int v5), some (.int v6), none], [.int (I 91 (Int32.toNatClampNeg v6))])) (h1 := zHp I) (fun n => rfl) hc ?_
        obtain rfl := Option.some.inj hm_m720
        refine zEv_go 1 (f1 := (95, [some (.ref 73), some (.int v1), some (.int v2), some (.int v3), some (.int v4), some (.int v5), some (.int v6), none], [.int (I 91 (Int32.toNatClampNeg v6))])) (h1 := zHp I) (fun n => rfl) ?_
        exact zEv_weak (L := [some (.ref 73), some (.int v1), some (.int v2), some (.int v3), some (.int v4), some (.int v5), some (.int v6), none]) (by exact ⟨rfl, ⟨rfl, ⟨rfl, ⟨rfl, ⟨rfl, ⟨rfl, ⟨rfl, ⟨rfl, trivial⟩⟩⟩⟩⟩⟩⟩⟩) hJ_m720
def Mo_ask_L30 : Nat → Int32 → Int32 → Int32 → Int32 → Int32 → zI → Option (Int32 × Int32 × zI)
  | 0, _, _, _, _, _, _ => none
  | n + 1, v1, v2, v3, v4, v5, I =>
    if 60 < v5 then
      some (v3, v4, I)
    else
      if v2 ≤ 0 then
        some (v3, v4, I)
      else
        (Mo_countBy n v5 I).bind fun I719 =>
        (Mo_ask_L50 n v1 v2 v3 v4 v5 0 I719).bind fun (x726, x727) =>
        Mo_ask_L30 n v1 v2 x726 x727 (v5 + 1) I719
theorem s_Mo_ask_L30 (d : Nat) (hd : 3 ≤ d) : ∀ (n : Nat) {v1 : Int32} {v2 : Int32} {v3 : Int32} {v4 : Int32} {v5 : Int32} {I : zI} {y3 : Int32} {y4 : Int32} {I' : zI} {v : Option Value} {h' : zH}, Mo_ask_L30 n v1 v2 v3 v4 v5 I = some (y3, y4, I') → zEv none d 176 (145, [some (.ref 73), some (.int v1), none, some (.int y3), some (.int y4), none, none, none], []) (zHp I') v h' → zEv none d 176 (30, [some (.ref 73), some (.int v1), some (.int v2), some (.int v3), some (.int v4), some (.int v5), none, none], []) (zHp I) v h' := by
  obtain ⟨d, rfl⟩ : ∃ e, d = e + 1 := ⟨d - 1, by omega⟩
  intro n
  induction n with
  | zero => intros; rename_i hf _; cases hf
  | succ n ih =>
    intro v1 v2 v3 v4 v5 I y3 y4 I' v h' hf kk
    rw [Mo_ask_L30] at hf
    refine zEv_if 3 (c := 60 < v5) (f1 := (145, [some (.ref 73), some (.int v1), some (.int v2), some (.int v3), some (.int v4), some (.int v5), none, none], [])) (f2 := (37, [some (.ref 73), some (.int v1), some (.int v2), some (.int v3), some (.int v4), some (.int v5), none, none], [])) (h1 := zHp I) (fun n => rfl) (fun hc => ?_) (fun hc => ?_)
    · rw [if_pos hc] at hf
      have hq0 := Option.some.inj hf
      obtain ⟨he0, hq1⟩ := Prod.mk.inj hq0
      subst he0
      obtain ⟨he1, hq2⟩ := Prod.mk.inj hq1
      subst he1
      subst hq2
      exact zEv_weak (L := [some (.ref 73), some (.int v1), none, some (.int v3), some (.int v4), none, none, none]) (by exact ⟨rfl, ⟨rfl, ⟨rfl, ⟨rfl, ⟨rfl, ⟨rfl, ⟨rfl, ⟨rfl, trivial⟩⟩⟩⟩⟩⟩⟩⟩) kk
    · rw [if_neg hc] at hf
      refine zEv_if 2 (c := v2 ≤ 0) (f1 := (145, [some (.ref 73), some (.int v1), some (.int v2), some (.int v3), some (.int v4), some (.int v5), none, none], [])) (f2 := (41, [some (.ref 73), some (.int v1), some (.int v2), some (.int v3), some (.int v4), some (.int v5), none, none], [])) (h1 := zHp I) (fun n => rfl) (fun hc => ?_) (fun hc => ?_)
      · rw [if_pos hc] at hf
        have hq0 := Option.some.inj hf
        obtain ⟨he0, hq1⟩ := Prod.mk.inj hq0
        subst he0
        obtain ⟨he1, hq2⟩ := Prod.mk.inj hq1
        subst he1
        subst hq2
        exact zEv_weak (L := [some (.ref 73), some (.int v1), none, some (.int v3), some (.int v4), none, none, none]) (by exact ⟨rfl, ⟨rfl, ⟨rfl, ⟨rfl, ⟨rfl, ⟨rfl, ⟨rfl, ⟨rfl, trivial⟩⟩⟩⟩⟩⟩⟩⟩) kk
      · rw [if_neg hc] at hf
        obtain ⟨I719, hx, hf⟩ := Option.bind_eq_some_iff.mp hf
        refine zEv_call 3 (N := 175) (vs := [.ref 73, .int v5]) (v1 := none) (h1 := zHp I719) (L := [some (.ref 73), some (.int v1), some (.int v2), some (.int v3), some (.int v4), some (.int v5), none, none]) (rest := []) (pc := 47) (fun n => rfl) (s_Mo_countBy hx d (by omega)) rfl rfl ?_
        show zEv _ _ _ (47, [some (.ref 73), some (.int v1), some (.int v2), some (.int v3), some (.int v4), some (.int v5), none, none], []) _ _ _
        obtain ⟨⟨x726, x727⟩, hx, hf⟩ := Option.bind_eq_some_iff.mp hf
        dsimp only at hf
        refine zEv_go 2 (f1 := (50, [some (.ref 73), some (.int v1), some (.int v2), some (.int v3), some (.int v4), some (.int v5), some (.int 0), none], [])) (h1 := zHp I719) (fun n => rfl) ?_
        refine zEv_weak (L := [some (.ref 73), some (.int v1), some (.int v2), some (.int v3), some (.int v4), some (.int v5), some (.int 0), none]) (by exact ⟨rfl, ⟨rfl, ⟨rfl, ⟨rfl, ⟨rfl, ⟨rfl, ⟨rfl, ⟨rfl, trivial⟩⟩⟩⟩⟩⟩⟩⟩) (s_Mo_ask_L50 (d + 1) (by omega) n hx ?_)
        refine zEv_go 2 (f1 := (30, [some (.ref 73), some (.int v1), some (.int v2), some (.int x726), some (.int x727), some (.int (v5 + 1)), none, none], [])) (h1 := zHp I719) (fun n => rfl) ?_
        refine zEv_weak (L := [some (.ref 73), some (.int v1), some (.int v2), some (.int x726), some (.int x727), some (.int (v5 + 1)), none, none]) (by exact ⟨rfl, ⟨rfl, ⟨rfl, ⟨rfl, ⟨rfl, ⟨rfl, ⟨rfl, ⟨rfl, trivial⟩⟩⟩⟩⟩⟩⟩⟩) ?_
        exact ih hf kk
def Mo_ask (n : Nat) (a0 : Int32) (I : zI) : Option (Int32 × zI) :=
  (Mo_in (Int32.toInt64 a0) 0 1 I).bind fun x709 =>
  if x709 = 0 then
    some ((-2), I)
  else
    (Mo_fits n (-1) I).bind fun x710 =>
    (Mo_ask_L30 n a0 x710 (-6) (x710 + 1) 0 I).bind fun (x728, x729, I730) =>
    if x728 < 0 then
      some (x728, I730)
    else
      if a0 = 0 then
        some (x728, I730)
      else
        some (x729, I730)
theorem s_Mo_ask {n : Nat} {a0 : Int32} {I : zI} {r : Int32} {I' : zI} (hf : Mo_ask n a0 I = some (r, I')) (d : Nat) (hd : 3 ≤ d) : zCall d 176 [.ref 73, .int a0] (zHp I) (some (.int r)) (zHp I') := by
  obtain ⟨d, rfl⟩ : ∃ e, d = e + 1 := ⟨d - 1, by omega⟩
  rw [Mo_ask] at hf
  show zEv _ _ _ (0, [some (.ref 73), some (.int a0), none, none, none, none, none, none], []) _ _ _
  obtain ⟨x709, hx, hf⟩ := Option.bind_eq_some_iff.mp hf
  refine zEv_call 5 (N := 117) (vs := [.long (Int32.toInt64 a0), .long 0, .long 1]) (v1 := some (.int x709)) (h1 := zHp I) (L := [some (.ref 73), some (.int a0), none, none, none, none, none, none]) (rest := []) (pc := 7) (fun n => rfl) (s_Mo_in hx d (by omega)) rfl rfl ?_
  show zEv _ _ _ (7, [some (.ref 73), some (.int a0), none, none, none, none, none, none], [.int x709]) _ _ _
  refine zEv_if 1 (c := x709 = 0) (f1 := (10, [some (.ref 73), some (.int a0), none, none, none, none, none, none], [])) (f2 := (13, [some (.ref 73), some (.int a0), none, none, none, none, none, none], [])) (h1 := zHp I) (fun n => rfl) (fun hc => ?_) (fun hc => ?_)
  · rw [if_pos hc] at hf
    cases hf
    exact zEv_ret 2 (fun n => rfl)
  · rw [if_neg hc] at hf
    obtain ⟨x710, hx, hf⟩ := Option.bind_eq_some_iff.mp hf
    refine zEv_call 3 (N := 174) (vs := [.ref 73, .int (-1)]) (v1 := some (.int x710)) (h1 := zHp I) (L := [some (.ref 73), some (.int a0), none, none, none, none, none, none]) (rest := []) (pc := 18) (fun n => rfl) (s_Mo_fits hx d (by omega)) rfl rfl ?_
    show zEv _ _ _ (18, [some (.ref 73), some (.int a0), none, none, none, none, none, none], [.int x710]) _ _ _
    obtain ⟨⟨x728, x729, I730⟩, hx, hf⟩ := Option.bind_eq_some_iff.mp hf
    dsimp only at hf
    refine zEv_go 9 (f1 := (30, [some (.ref 73), some (.int a0), some (.int x710), some (.int (-6)), some (.int (x710 + 1)), some (.int 0), none, none], [])) (h1 := zHp I) (fun n => rfl) ?_
    refine zEv_weak (L := [some (.ref 73), some (.int a0), some (.int x710), some (.int (-6)), some (.int (x710 + 1)), some (.int 0), none, none]) (by exact ⟨rfl, ⟨rfl, ⟨rfl, ⟨rfl, ⟨rfl, ⟨rfl, ⟨rfl, ⟨rfl, trivial⟩⟩⟩⟩⟩⟩⟩⟩) (s_Mo_ask_L30 (d + 1) (by omega) n hx ?_)
    refine zEv_if 2 (c := x728 < 0) (f1 := (153, [some (.ref 73), some (.int a0), none, some (.int x728), some (.int x729), none, none, none], [])) (f2 := (149, [some (.ref 73), some (.int a0), none, some (.int x728), some (.int x729), none, none, none], [])) (h1 := zHp I730) (fun n => rfl) (fun hc => ?_) (fun hc => ?_)
    · rw [if_pos hc] at hf
      cases hf
      exact zEv_ret 3 (fun n => rfl)
    · rw [if_neg hc] at hf
      refine zEv_if 2 (c := a0 = 0) (f1 := (153, [some (.ref 73), some (.int a0), none, some (.int x728), some (.int x729), none, none, none], [])) (f2 := (157, [some (.ref 73), some (.int a0), none, some (.int x728), some (.int x729), none, none, none], [])) (h1 := zHp I730) (fun n => rfl) (fun hc => ?_) (fun hc => ?_)
      · rw [if_pos hc] at hf
        cases hf
        exact zEv_ret 3 (fun n => rfl)
      · rw [if_neg hc] at hf
        cases hf
        exact zEv_ret 2 (fun n => rfl)
def Mo_rowsBy  (a0 : Int32) (a1 : Int32) (I : zI) : Option (Int32) :=
  (
    if a1 ≤ 1 then
      some 0
    else
      some (a1 - 1) : Option (Int32)).bind fun x735 =>
  (
    if (a0 - a1) ≤ 2 then
      some 0
    else
      some ((a0 - a1) - 2) : Option (Int32)).bind fun x737 =>
  if zIn x735 41 then
    if zIn x737 41 then
      some ((I 92 (Int32.toNatClampNeg x735)) ^^^ (I 92 (Int32.toNatClampNeg x737)))
    else none
  else none
theorem s_Mo_rowsBy  {a0 : Int32} {a1 : Int32} {I : zI} {r : Int32} (hf : Mo_rowsBy a0 a1 I = some r) (d : Nat) (hd : 0 ≤ d) : zCall d 177 [.ref 73, .int a0, .int a1] (zHp I) (some (.int r)) (zHp I) := by
  rw [Mo_rowsBy] at hf
  show zEv _ _ _ (0, [some (.ref 73), some (.int a0), some (.int a1), none, none], []) _ _ _
  obtain ⟨x735, hm_m734, hf⟩ := Option.bind_eq_some_iff.mp hf
  have hJ_m734 : zEv none (d) 177 (12, [some (.ref 73), some (.int a0), some (.int a1), none, none], [.int x735]) (zHp I) (some (.int r)) (zHp I) := by
    obtain ⟨x737, hm_m736, hf⟩ := Option.bind_eq_some_iff.mp hf
    have hJ_m736 : zEv none (d) 177 (29, [some (.ref 73), none, none, some (.int x735), none], [.int x737]) (zHp I) (some (.int r)) (zHp I) := by
      obtain ⟨hc, hf⟩ := zGd_inv hf
      refine zEv_gd 5 (c := zIn x735 41) (f1 := (37, [some (.ref 73), none, none, some (.int x735), some (.int x737)], [.int (I 92 (Int32.toNatClampNeg x735))])) (h1 := zHp I) (fun n => rfl) hc ?_
      obtain ⟨hc, hf⟩ := zGd_inv hf
      refine zEv_gd 4 (c := zIn x737 41) (f1 := (44, [some (.ref 73), none, none, some (.int x735), some (.int x737)], [.int (I 92 (Int32.toNatClampNeg x737)), .int (I 92 (Int32.toNatClampNeg x735))])) (h1 := zHp I) (fun n => rfl) hc ?_
      cases hf
      exact zEv_ret 2 (fun n => rfl)
    clear hf
    refine zEv_if 6 (c := (a0 - a1) ≤ 2) (f1 := (28, [some (.ref 73), some (.int a0), some (.int a1), some (.int x735), none], [])) (f2 := (20, [some (.ref 73), some (.int a0), some (.int a1), some (.int x735), none], [])) (h1 := zHp I) (fun n => rfl) (fun hc => ?_) (fun hc => ?_)
    · rw [if_pos hc] at hm_m736
      obtain rfl := Option.some.inj hm_m736
      refine zEv_go 1 (f1 := (29, [some (.ref 73), some (.int a0), some (.int a1), some (.int x735), none], [.int 0])) (h1 := zHp I) (fun n => rfl) ?_
      exact zEv_weak (L := [some (.ref 73), none, none, some (.int x735), none]) (by exact ⟨rfl, ⟨rfl, ⟨rfl, ⟨rfl, ⟨rfl, trivial⟩⟩⟩⟩⟩) hJ_m736
    · rw [if_neg hc] at hm_m736
      obtain rfl := Option.some.inj hm_m736
      refine zEv_go 6 (f1 := (29, [some (.ref 73), some (.int a0), some (.int a1), some (.int x735), none], [.int ((a0 - a1) - 2)])) (h1 := zHp I) (fun n => rfl) ?_
      exact zEv_weak (L := [some (.ref 73), none, none, some (.int x735), none]) (by exact ⟨rfl, ⟨rfl, ⟨rfl, ⟨rfl, ⟨rfl, trivial⟩⟩⟩⟩⟩) hJ_m736
  clear hf
  refine zEv_if 3 (c := a1 ≤ 1) (f1 := (11, [some (.ref 73), some (.int a0), some (.int a1), none, none], [])) (f2 := (5, [some (.ref 73), some (.int a0), some (.int a1), none, none], [])) (h1 := zHp I) (fun n => rfl) (fun hc => ?_) (fun hc => ?_)
  · rw [if_pos hc] at hm_m734
    obtain rfl := Option.some.inj hm_m734
    refine zEv_go 1 (f1 := (12, [some (.ref 73), some (.int a0), some (.int a1), none, none], [.int 0])) (h1 := zHp I) (fun n => rfl) ?_
    exact zEv_weak (L := [some (.ref 73), some (.int a0), some (.int a1), none, none]) (by exact ⟨rfl, ⟨rfl, ⟨rfl, ⟨rfl, ⟨rfl, trivial⟩⟩⟩⟩⟩) hJ_m734
  · rw [if_neg hc] at hm_m734
    obtain rfl := Option.some.inj hm_m734
    refine zEv_go 4 (f1 := (12, [some (.ref 73), some (.int a0), some (.int a1), none, none], [.int (a1 - 1)])) (h1 := zHp I) (fun n => rfl) ?_
    exact zEv_weak (L := [some (.ref 73), some (.int a0), some (.int a1), none, none]) (by exact ⟨rfl, ⟨rfl, ⟨rfl, ⟨rfl, ⟨rfl, trivial⟩⟩⟩⟩⟩) hJ_m734
def Mo_worthOf_L49 : Nat → Int32 → zI → Option (Int32)
  | 0, _, _ => none
  | n + 1, v2, I =>
    if zIn v2 128 then
      if (I 93 (Int32.toNatClampNeg v2)) = 0 then
        some v2
      else
        Mo_worthOf_L49 n (v2 + 1) I
    else none
theorem s_Mo_worthOf_L49 (d : Nat) (hd : 1 ≤ d) : ∀ (n : Nat) {v2 : Int32} {I : zI} {y2 : Int32} {v : Option Value} {h' : zH}, Mo_worthOf_L49 n v2 I = some y2 → zEv none d 178 (64, [some (.ref 73), none, some (.int y2)], []) (zHp I) v h' → zEv none d 178 (49, [some (.ref 73), none, some (.int v2)], []) (zHp I) v h' := by
  obtain ⟨d, rfl⟩ : ∃ e, d = e + 1 := ⟨d - 1, by omega⟩
  intro n
  induction n with
  | zero => intros; rename_i hf _; cases hf
  | succ n ih =>
    intro v2 I y2 v h' hf kk
    rw [Mo_worthOf_L49] at hf
    obtain ⟨hc, hf⟩ := zGd_inv hf
    refine zEv_gd 4 (c := zIn v2 128) (f1 := (55, [some (.ref 73), none, some (.int v2)], [.int (I 93 (Int32.toNatClampNeg v2))])) (h1 := zHp I) (fun n => rfl) hc ?_
    refine zEv_if 1 (c := (I 93 (Int32.toNatClampNeg v2)) = 0) (f1 := (64, [some (.ref 73), none, some (.int v2)], [])) (f2 := (58, [some (.ref 73), none, some (.int v2)], [])) (h1 := zHp I) (fun n => rfl) (fun hc => ?_) (fun hc => ?_)
    · rw [if_pos hc] at hf
      obtain rfl := Option.some.inj hf
      exact zEv_weak (L := [some (.ref 73), none, some (.int v2)]) (by exact ⟨rfl, ⟨rfl, ⟨rfl, trivial⟩⟩⟩) kk
    · rw [if_neg hc] at hf
      refine zEv_go 2 (f1 := (49, [some (.ref 73), none, some (.int (v2 + 1))], [])) (h1 := zHp I) (fun n => rfl) ?_
      refine zEv_weak (L := [some (.ref 73), none, some (.int (v2 + 1))]) (by exact ⟨rfl, ⟨rfl, ⟨rfl, trivial⟩⟩⟩) ?_
      exact ih hf kk
def Mo_worthOf_L24 : Nat → Int32 → Int32 → zI → Option (zI)
  | 0, _, _, _ => none
  | n + 1, v1, v2, I =>
    if v1 ≤ v2 then
      some I
    else
      (Mo_rowsBy v1 v2 I).bind fun x738 =>
      if zIn x738 128 ∧ ((1 : Int32) = 0 ∨ (1 : Int32) = 1) then
        Mo_worthOf_L24 n v1 (v2 + 1) (zUp I 93 (Int32.toNatClampNeg x738) 1)
      else none
theorem s_Mo_worthOf_L24 (d : Nat) (hd : 1 ≤ d) : ∀ (n : Nat) {v1 : Int32} {v2 : Int32} {I : zI}  {I' : zI} {v : Option Value} {h' : zH}, Mo_worthOf_L24 n v1 v2 I = some I' → zEv none d 178 (47, [some (.ref 73), none, none], []) (zHp I') v h' → zEv none d 178 (24, [some (.ref 73), some (.int v1), some (.int v2)], []) (zHp I) v h' := by
  obtain ⟨d, rfl⟩ : ∃ e, d = e + 1 := ⟨d - 1, by omega⟩
  intro n
  induction n with
  | zero => intros; rename_i hf _; cases hf
  | succ n ih =>
    intro v1 v2 I I' v h' hf kk
    rw [Mo_worthOf_L24] at hf
    refine zEv_if 3 (c := v1 ≤ v2) (f1 := (47, [some (.ref 73), some (.int v1), some (.int v2)], [])) (f2 := (29, [some (.ref 73), some (.int v1), some (.int v2)], [])) (h1 := zHp I) (fun n => rfl) (fun hc => ?_) (fun hc => ?_)
    · rw [if_pos hc] at hf
      obtain rfl := Option.some.inj hf
      exact zEv_weak (L := [some (.ref 73), none, none]) (by exact ⟨rfl, ⟨rfl, ⟨rfl, trivial⟩⟩⟩) kk
    · rw [if_neg hc] at hf
      obtain ⟨x738, hx, hf⟩ := Option.bind_eq_some_iff.mp hf
      refine zEv_call 6 (N := 177) (vs := [.ref 73, .int v1, .int v2]) (v1 := some (.int x738)) (h1 := zHp I) (L := [some (.ref 73), some (.int v1), some (.int v2)]) (rest := [.ref 93]) (pc := 39) (fun n => rfl) (s_Mo_rowsBy hx d (by omega)) rfl rfl ?_
      show zEv _ _ _ (39, [some (.ref 73), some (.int v1), some (.int v2)], [.int x738, .ref 93]) _ _ _
      obtain ⟨hc, hf⟩ := zGd_inv hf
      refine zEv_gd 2 (c := zIn x738 128 ∧ ((1 : Int32) = 0 ∨ (1 : Int32) = 1)) (f1 := (41, [some (.ref 73), some (.int v1), some (.int v2)], [])) (h1 := zHp (zUp I 93 (Int32.toNatClampNeg x738) 1)) (fun n => rfl) hc ?_
      refine zEv_go 2 (f1 := (24, [some (.ref 73), some (.int v1), some (.int (v2 + 1))], [])) (h1 := zHp (zUp I 93 (Int32.toNatClampNeg x738) 1)) (fun n => rfl) ?_
      refine zEv_weak (L := [some (.ref 73), some (.int v1), some (.int (v2 + 1))]) (by exact ⟨rfl, ⟨rfl, ⟨rfl, trivial⟩⟩⟩) ?_
      exact ih hf kk
def Mo_worthOf_L2 : Nat → Int32 → Int32 → zI → Option (zI)
  | 0, _, _, _ => none
  | n + 1, v1, v2, I =>
    if 128 ≤ v2 then
      some I
    else
      if zIn v2 128 ∧ ((0 : Int32) = 0 ∨ (0 : Int32) = 1) then
        Mo_worthOf_L2 n v1 (v2 + 1) (zUp I 93 (Int32.toNatClampNeg v2) 0)
      else none
theorem s_Mo_worthOf_L2 (d : Nat) (hd : 1 ≤ d) : ∀ (n : Nat) {v1 : Int32} {v2 : Int32} {I : zI}  {I' : zI} {v : Option Value} {h' : zH}, Mo_worthOf_L2 n v1 v2 I = some I' → zEv none d 178 (22, [some (.ref 73), some (.int v1), none], []) (zHp I') v h' → zEv none d 178 (2, [some (.ref 73), some (.int v1), some (.int v2)], []) (zHp I) v h' := by
  obtain ⟨d, rfl⟩ : ∃ e, d = e + 1 := ⟨d - 1, by omega⟩
  intro n
  induction n with
  | zero => intros; rename_i hf _; cases hf
  | succ n ih =>
    intro v1 v2 I I' v h' hf kk
    rw [Mo_worthOf_L2] at hf
    refine zEv_if 3 (c := 128 ≤ v2) (f1 := (22, [some (.ref 73), some (.int v1), some (.int v2)], [])) (f2 := (9, [some (.ref 73), some (.int v1), some (.int v2)], [])) (h1 := zHp I) (fun n => rfl) (fun hc => ?_) (fun hc => ?_)
    · rw [if_pos hc] at hf
      obtain rfl := Option.some.inj hf
      exact zEv_weak (L := [some (.ref 73), some (.int v1), none]) (by exact ⟨rfl, ⟨rfl, ⟨rfl, trivial⟩⟩⟩) kk
    · rw [if_neg hc] at hf
      obtain ⟨hc, hf⟩ := zGd_inv hf
      refine zEv_gd 5 (c := zIn v2 128 ∧ ((0 : Int32) = 0 ∨ (0 : Int32) = 1)) (f1 := (16, [some (.ref 73), some (.int v1), some (.int v2)], [])) (h1 := zHp (zUp I 93 (Int32.toNatClampNeg v2) 0)) (fun n => rfl) hc ?_
      refine zEv_go 2 (f1 := (2, [some (.ref 73), some (.int v1), some (.int (v2 + 1))], [])) (h1 := zHp (zUp I 93 (Int32.toNatClampNeg v2) 0)) (fun n => rfl) ?_
      refine zEv_weak (L := [some (.ref 73), some (.int v1), some (.int (v2 + 1))]) (by exact ⟨rfl, ⟨rfl, ⟨rfl, trivial⟩⟩⟩) ?_
      exact ih hf kk
def Mo_worthOf (n : Nat) (a0 : Int32) (I : zI) : Option (Int32 × zI) :=
  (Mo_worthOf_L2 n a0 0 I).bind fun I733 =>
  (Mo_worthOf_L24 n a0 0 I733).bind fun I739 =>
  (Mo_worthOf_L49 n 0 I739).bind fun x740 =>
  some (x740, I739)
theorem s_Mo_worthOf {n : Nat} {a0 : Int32} {I : zI} {r : Int32} {I' : zI} (hf : Mo_worthOf n a0 I = some (r, I')) (d : Nat) (hd : 1 ≤ d) : zCall d 178 [.ref 73, .int a0] (zHp I) (some (.int r)) (zHp I') := by
  obtain ⟨d, rfl⟩ : ∃ e, d = e + 1 := ⟨d - 1, by omega⟩
  rw [Mo_worthOf] at hf
  show zEv _ _ _ (0, [some (.ref 73), some (.int a0), none], []) _ _ _
  obtain ⟨I733, hx, hf⟩ := Option.bind_eq_some_iff.mp hf
  refine zEv_go 2 (f1 := (2, [some (.ref 73), some (.int a0), some (.int 0)], [])) (h1 := zHp I) (fun n => rfl) ?_
  refine zEv_weak (L := [some (.ref 73), some (.int a0), some (.int 0)]) (by exact ⟨rfl, ⟨rfl, ⟨rfl, trivial⟩⟩⟩) (s_Mo_worthOf_L2 (d + 1) (by omega) n hx ?_)
  obtain ⟨I739, hx, hf⟩ := Option.bind_eq_some_iff.mp hf
  refine zEv_go 2 (f1 := (24, [some (.ref 73), some (.int a0), some (.int 0)], [])) (h1 := zHp I733) (fun n => rfl) ?_
  refine zEv_weak (L := [some (.ref 73), some (.int a0), some (.int 0)]) (by exact ⟨rfl, ⟨rfl, ⟨rfl, trivial⟩⟩⟩) (s_Mo_worthOf_L24 (d + 1) (by omega) n hx ?_)
  obtain ⟨x740, hx, hf⟩ := Option.bind_eq_some_iff.mp hf
  refine zEv_go 2 (f1 := (49, [some (.ref 73), none, some (.int 0)], [])) (h1 := zHp I739) (fun n => rfl) ?_
  refine zEv_weak (L := [some (.ref 73), none, some (.int 0)]) (by exact ⟨rfl, ⟨rfl, ⟨rfl, trivial⟩⟩⟩) (s_Mo_worthOf_L49 (d + 1) (by omega) n hx ?_)
  cases hf
  exact zEv_ret 2 (fun n => rfl)
def Mo_take_L57 : Nat → Int32 → Int32 → Int32 → Int32 → zI → Option (Int32)
  | 0, _, _, _, _, _ => none
  | n + 1, v1, v2, v3, v4, I =>
    if v4 < 0 then
      some v3
    else
      (Mo_rowsBy v1 v4 I).bind fun x744 =>
      (
        if x744 = 0 then
          some v4
        else
          some v3 : Option (Int32)).bind fun x746 =>
      Mo_take_L57 n v1 v2 x746 (v4 + (-1)) I
theorem s_Mo_take_L57 (d : Nat) (hd : 2 ≤ d) : ∀ (n : Nat) {v1 : Int32} {v2 : Int32} {v3 : Int32} {v4 : Int32} {I : zI} {y3 : Int32} {v : Option Value} {h' : zH}, Mo_take_L57 n v1 v2 v3 v4 I = some y3 → zEv none d 179 (85, [some (.ref 73), none, some (.int v2), some (.int y3), none], []) (zHp I) v h' → zEv none d 179 (57, [some (.ref 73), some (.int v1), some (.int v2), some (.int v3), some (.int v4)], []) (zHp I) v h' := by
  obtain ⟨d, rfl⟩ : ∃ e, d = e + 1 := ⟨d - 1, by omega⟩
  intro n
  induction n with
  | zero => intros; rename_i hf _; cases hf
  | succ n ih =>
    intro v1 v2 v3 v4 I y3 v h' hf kk
    rw [Mo_take_L57] at hf
    refine zEv_if 2 (c := v4 < 0) (f1 := (85, [some (.ref 73), some (.int v1), some (.int v2), some (.int v3), some (.int v4)], [])) (f2 := (62, [some (.ref 73), some (.int v1), some (.int v2), some (.int v3), some (.int v4)], [])) (h1 := zHp I) (fun n => rfl) (fun hc => ?_) (fun hc => ?_)
    · rw [if_pos hc] at hf
      obtain rfl := Option.some.inj hf
      exact zEv_weak (L := [some (.ref 73), none, some (.int v2), some (.int v3), none]) (by exact ⟨rfl, ⟨rfl, ⟨rfl, ⟨rfl, ⟨rfl, trivial⟩⟩⟩⟩⟩) kk
    · rw [if_neg hc] at hf
      obtain ⟨x744, hx, hf⟩ := Option.bind_eq_some_iff.mp hf
      refine zEv_call 4 (N := 177) (vs := [.ref 73, .int v1, .int v4]) (v1 := some (.int x744)) (h1 := zHp I) (L := [some (.ref 73), some (.int v1), some (.int v2), some (.int v3), some (.int v4)]) (rest := []) (pc := 69) (fun n => rfl) (s_Mo_rowsBy hx d (by omega)) rfl rfl ?_
      show zEv _ _ _ (69, [some (.ref 73), some (.int v1), some (.int v2), some (.int v3), some (.int v4)], [.int x744]) _ _ _
      obtain ⟨x746, hm_m745, hf⟩ := Option.bind_eq_some_iff.mp hf
      have hJ_m745 : zEv none (d + 1) 179 (78, [some (.ref 73), some (.int v1), some (.int v2), none, some (.int v4)], [.int x746]) (zHp I) v h' := by
        refine zEv_go 3 (f1 := (57, [some (.ref 73), some (.int v1), some (.int v2), some (.int x746), some (.int (v4 + (-1)))], [])) (h1 := zHp I) (fun n => rfl) ?_
        refine zEv_weak (L := [some (.ref 73), some (.int v1), some (.int v2), some (.int x746), some (.int (v4 + (-1)))]) (by exact ⟨rfl, ⟨rfl, ⟨rfl, ⟨rfl, ⟨rfl, trivial⟩⟩⟩⟩⟩) ?_
        exact ih hf kk
      clear hf
      refine zEv_if 1 (c := x744 = 0) (f1 := (72, [some (.ref 73), some (.int v1), some (.int v2), some (.int v3), some (.int v4)], [])) (f2 := (77, [some (.ref 73), some (.int v1), some (.int v2), some (.int v3), some (.int v4)], [])) (h1 := zHp I) (fun n => rfl) (fun hc => ?_) (fun hc => ?_)
      · rw [if_pos hc] at hm_m745
        obtain rfl := Option.some.inj hm_m745
        refine zEv_go 2 (f1 := (78, [some (.ref 73), some (.int v1), some (.int v2), some (.int v3), some (.int v4)], [.int v4])) (h1 := zHp I) (fun n => rfl) ?_
        exact zEv_weak (L := [some (.ref 73), some (.int v1), some (.int v2), none, some (.int v4)]) (by exact ⟨rfl, ⟨rfl, ⟨rfl, ⟨rfl, ⟨rfl, trivial⟩⟩⟩⟩⟩) hJ_m745
      · rw [if_neg hc] at hm_m745
        obtain rfl := Option.some.inj hm_m745
        refine zEv_go 1 (f1 := (78, [some (.ref 73), some (.int v1), some (.int v2), some (.int v3), some (.int v4)], [.int v3])) (h1 := zHp I) (fun n => rfl) ?_
        exact zEv_weak (L := [some (.ref 73), some (.int v1), some (.int v2), none, some (.int v4)]) (by exact ⟨rfl, ⟨rfl, ⟨rfl, ⟨rfl, ⟨rfl, trivial⟩⟩⟩⟩⟩) hJ_m745
def Mo_take_L27 : Nat → Int32 → Int32 → Int32 → zI → Option (zI)
  | 0, _, _, _, _ => none
  | n + 1, v1, v2, v3, I =>
    if v1 < v3 then
      some I
    else
      (Mo_worthOf n v3 I).bind fun (x741, I742) =>
      if zIn v3 41 then
        Mo_take_L27 n v1 v2 (v3 + 1) (zUp I742 92 (Int32.toNatClampNeg v3) x741)
      else none
theorem s_Mo_take_L27 (d : Nat) (hd : 2 ≤ d) : ∀ (n : Nat) {v1 : Int32} {v2 : Int32} {v3 : Int32} {I : zI}  {I' : zI} {v : Option Value} {h' : zH}, Mo_take_L27 n v1 v2 v3 I = some I' → zEv none d 179 (49, [some (.ref 73), some (.int v1), some (.int v2), none, none], []) (zHp I') v h' → zEv none d 179 (27, [some (.ref 73), some (.int v1), some (.int v2), some (.int v3), none], []) (zHp I) v h' := by
  obtain ⟨d, rfl⟩ : ∃ e, d = e + 1 := ⟨d - 1, by omega⟩
  intro n
  induction n with
  | zero => intros; rename_i hf _; cases hf
  | succ n ih =>
    intro v1 v2 v3 I I' v h' hf kk
    rw [Mo_take_L27] at hf
    refine zEv_if 3 (c := v1 < v3) (f1 := (49, [some (.ref 73), some (.int v1), some (.int v2), some (.int v3), none], [])) (f2 := (32, [some (.ref 73), some (.int v1), some (.int v2), some (.int v3), none], [])) (h1 := zHp I) (fun n => rfl) (fun hc => ?_) (fun hc => ?_)
    · rw [if_pos hc] at hf
      obtain rfl := Option.some.inj hf
      exact zEv_weak (L := [some (.ref 73), some (.int v1), some (.int v2), none, none]) (by exact ⟨rfl, ⟨rfl, ⟨rfl, ⟨rfl, ⟨rfl, trivial⟩⟩⟩⟩⟩) kk
    · rw [if_neg hc] at hf
      obtain ⟨⟨x741, I742⟩, hx, hf⟩ := Option.bind_eq_some_iff.mp hf
      dsimp only at hf
      refine zEv_call 6 (N := 178) (vs := [.ref 73, .int v3]) (v1 := some (.int x741)) (h1 := zHp I742) (L := [some (.ref 73), some (.int v1), some (.int v2), some (.int v3), none]) (rest := [.int v3, .ref 92]) (pc := 42) (fun n => rfl) (s_Mo_worthOf hx d (by omega)) rfl rfl ?_
      show zEv _ _ _ (42, [some (.ref 73), some (.int v1), some (.int v2), some (.int v3), none], [.int x741, .int v3, .ref 92]) _ _ _
      obtain ⟨hc, hf⟩ := zGd_inv hf
      refine zEv_gd 1 (c := zIn v3 41) (f1 := (43, [some (.ref 73), some (.int v1), some (.int v2), some (.int v3), none], [])) (h1 := zHp (zUp I742 92 (Int32.toNatClampNeg v3) x741)) (fun n => rfl) hc ?_
      refine zEv_go 2 (f1 := (27, [some (.ref 73), some (.int v1), some (.int v2), some (.int (v3 + 1)), none], [])) (h1 := zHp (zUp I742 92 (Int32.toNatClampNeg v3) x741)) (fun n => rfl) ?_
      refine zEv_weak (L := [some (.ref 73), some (.int v1), some (.int v2), some (.int (v3 + 1)), none]) (by exact ⟨rfl, ⟨rfl, ⟨rfl, ⟨rfl, ⟨rfl, trivial⟩⟩⟩⟩⟩) ?_
      exact ih hf kk
def Mo_take (n : Nat) (a0 : Int32) (a1 : Int32) (I : zI) : Option (Int32 × zI) :=
  (Mo_in (Int32.toInt64 a0) 0 40 I).bind fun x731 =>
  if x731 = 0 then
    some ((-2), I)
  else
    (Mo_in (Int32.toInt64 a1) 0 1 I).bind fun x732 =>
    if x732 = 0 then
      some ((-2), I)
    else
      (Mo_take_L27 n a0 a1 0 I).bind fun I743 =>
      (Mo_take_L57 n a0 a1 (-6) (a0 - 1) I743).bind fun x747 =>
      if a1 = 1 then
        some (x747, I743)
      else
        if 0 ≤ x747 then
          some (1, I743)
        else
          some (0, I743)
theorem s_Mo_take {n : Nat} {a0 : Int32} {a1 : Int32} {I : zI} {r : Int32} {I' : zI} (hf : Mo_take n a0 a1 I = some (r, I')) (d : Nat) (hd : 2 ≤ d) : zCall d 179 [.ref 73, .int a0, .int a1] (zHp I) (some (.int r)) (zHp I') := by
  obtain ⟨d, rfl⟩ : ∃ e, d = e + 1 := ⟨d - 1, by omega⟩
  rw [Mo_take] at hf
  show zEv _ _ _ (0, [some (.ref 73), some (.int a0), some (.int a1), none, none], []) _ _ _
  obtain ⟨x731, hx, hf⟩ := Option.bind_eq_some_iff.mp hf
  refine zEv_call 5 (N := 117) (vs := [.long (Int32.toInt64 a0), .long 0, .long 40]) (v1 := some (.int x731)) (h1 := zHp I) (L := [some (.ref 73), some (.int a0), some (.int a1), none, none]) (rest := []) (pc := 9) (fun n => rfl) (s_Mo_in hx d (by omega)) rfl rfl ?_
  show zEv _ _ _ (9, [some (.ref 73), some (.int a0), some (.int a1), none, none], [.int x731]) _ _ _
  refine zEv_if 1 (c := x731 = 0) (f1 := (22, [some (.ref 73), some (.int a0), some (.int a1), none, none], [])) (f2 := (12, [some (.ref 73), some (.int a0), some (.int a1), none, none], [])) (h1 := zHp I) (fun n => rfl) (fun hc => ?_) (fun hc => ?_)
  · rw [if_pos hc] at hf
    cases hf
    exact zEv_ret 2 (fun n => rfl)
  · rw [if_neg hc] at hf
    obtain ⟨x732, hx, hf⟩ := Option.bind_eq_some_iff.mp hf
    refine zEv_call 5 (N := 117) (vs := [.long (Int32.toInt64 a1), .long 0, .long 1]) (v1 := some (.int x732)) (h1 := zHp I) (L := [some (.ref 73), some (.int a0), some (.int a1), none, none]) (rest := []) (pc := 19) (fun n => rfl) (s_Mo_in hx d (by omega)) rfl rfl ?_
    show zEv _ _ _ (19, [some (.ref 73), some (.int a0), some (.int a1), none, none], [.int x732]) _ _ _
    refine zEv_if 1 (c := x732 = 0) (f1 := (22, [some (.ref 73), some (.int a0), some (.int a1), none, none], [])) (f2 := (25, [some (.ref 73), some (.int a0), some (.int a1), none, none], [])) (h1 := zHp I) (fun n => rfl) (fun hc => ?_) (fun hc => ?_)
    · rw [if_pos hc] at hf
      cases hf
      exact zEv_ret 2 (fun n => rfl)
    · rw [if_neg hc] at hf
      obtain ⟨I743, hx, hf⟩ := Option.bind_eq_some_iff.mp hf
      refine zEv_go 2 (f1 := (27, [some (.ref 73), some (.int a0), some (.int a1), some (.int 0), none], [])) (h1 := zHp I) (fun n => rfl) ?_
      refine zEv_weak (L := [some (.ref 73), some (.int a0), some (.int a1), some (.int 0), none]) (by exact ⟨rfl, ⟨rfl, ⟨rfl, ⟨rfl, ⟨rfl, trivial⟩⟩⟩⟩⟩) (s_Mo_take_L27 (d + 1) (by omega) n hx ?_)
      obtain ⟨x747, hx, hf⟩ := Option.bind_eq_some_iff.mp hf
      refine zEv_go 6 (f1 := (57, [some (.ref 73), some (.int a0), some (.int a1), some (.int (-6)), some (.int (a0 - 1))], [])) (h1 := zHp I743) (fun n => rfl) ?_
      refine zEv_weak (L := [some (.ref 73), some (.int a0), some (.int a1), some (.int (-6)), some (.int (a0 - 1))]) (by exact ⟨rfl, ⟨rfl, ⟨rfl, ⟨rfl, ⟨rfl, trivial⟩⟩⟩⟩⟩) (s_Mo_take_L57 (d + 1) (by omega) n hx ?_)
      refine zEv_if 3 (c := a1 = 1) (f1 := (90, [some (.ref 73), none, some (.int a1), some (.int x747), none], [])) (f2 := (94, [some (.ref 73), none, some (.int a1), some (.int x747), none], [])) (h1 := zHp I743) (fun n => rfl) (fun hc => ?_) (fun hc => ?_)
      · rw [if_pos hc] at hf
        cases hf
        exact zEv_ret 3 (fun n => rfl)
      · rw [if_neg hc] at hf
        refine zEv_if 2 (c := 0 ≤ x747) (f1 := (102, [some (.ref 73), none, some (.int a1), some (.int x747), none], [])) (f2 := (98, [some (.ref 73), none, some (.int a1), some (.int x747), none], [])) (h1 := zHp I743) (fun n => rfl) (fun hc => ?_) (fun hc => ?_)
        · rw [if_pos hc] at hf
          cases hf
          exact zEv_ret 2 (fun n => rfl)
        · rw [if_neg hc] at hf
          cases hf
          exact zEv_ret 3 (fun n => rfl)
def Mo_lowest_L6 : Nat → Int64 → Int64 → Int32 → Int64 → Int64 → zI → Option (Int64)
  | 0, _, _, _, _, _, _ => none
  | n + 1, v0, v2, v4, v5, v7, I =>
    if (lg_cmp v7 0) = 0 then
      some v5
    else
      if ¬ v7 = 0 then
        Mo_lowest_L6 n v0 v2 v4 v7 (zLrem v5 v7) I
      else none
theorem s_Mo_lowest_L6 (d : Nat) (hd : 0 ≤ d) : ∀ (n : Nat) {v0 : Int64} {v2 : Int64} {v4 : Int32} {v5 : Int64} {v7 : Int64} {I : zI} {y5 : Int64} {v : Option Value} {h' : zH}, Mo_lowest_L6 n v0 v2 v4 v5 v7 I = some y5 → zEv none d 180 (31, [some (.long v0), none, some (.long v2), none, some (.int v4), some (.long y5), none, none, none, none, none], []) (zHp I) v h' → zEv none d 180 (6, [some (.long v0), none, some (.long v2), none, some (.int v4), some (.long v5), none, some (.long v7), none, none, none], []) (zHp I) v h' := by
  intro n
  induction n with
  | zero => intros; rename_i hf _; cases hf
  | succ n ih =>
    intro v0 v2 v4 v5 v7 I y5 v h' hf kk
    rw [Mo_lowest_L6] at hf
    refine zEv_if 4 (c := (lg_cmp v7 0) = 0) (f1 := (31, [some (.long v0), none, some (.long v2), none, some (.int v4), some (.long v5), none, some (.long v7), none, none, none], [])) (f2 := (13, [some (.long v0), none, some (.long v2), none, some (.int v4), some (.long v5), none, some (.long v7), none, none, none], [])) (h1 := zHp I) (fun n => rfl) (fun hc => ?_) (fun hc => ?_)
    · rw [if_pos hc] at hf
      obtain rfl := Option.some.inj hf
      exact zEv_weak (L := [some (.long v0), none, some (.long v2), none, some (.int v4), some (.long v5), none, none, none, none, none]) (by exact ⟨rfl, ⟨rfl, ⟨rfl, ⟨rfl, ⟨rfl, ⟨rfl, ⟨rfl, ⟨rfl, ⟨rfl, ⟨rfl, ⟨rfl, trivial⟩⟩⟩⟩⟩⟩⟩⟩⟩⟩⟩) kk
    · rw [if_neg hc] at hf
      obtain ⟨hc, hf⟩ := zGd_inv hf
      refine zEv_gd 3 (c := ¬ v7 = 0) (f1 := (18, [some (.long v0), none, some (.long v2), none, some (.int v4), some (.long v5), none, some (.long v7), none, none, none], [.long (zLrem v5 v7)])) (h1 := zHp I) (fun n => rfl) hc ?_
      refine zEv_go 6 (f1 := (6, [some (.long v0), none, some (.long v2), none, some (.int v4), some (.long v7), none, some (.long (zLrem v5 v7)), none, some (.long (zLrem v5 v7)), none], [])) (h1 := zHp I) (fun n => rfl) ?_
      refine zEv_weak (L := [some (.long v0), none, some (.long v2), none, some (.int v4), some (.long v7), none, some (.long (zLrem v5 v7)), none, none, none]) (by exact ⟨rfl, ⟨rfl, ⟨rfl, ⟨rfl, ⟨rfl, ⟨rfl, ⟨rfl, ⟨rfl, ⟨rfl, ⟨rfl, ⟨rfl, trivial⟩⟩⟩⟩⟩⟩⟩⟩⟩⟩⟩) ?_
      exact ih hf kk
def Mo_lowest (n : Nat) (a0 : Int64) (a1 : Int64) (a2 : Int32) (I : zI) : Option (Int64) :=
  (Mo_lowest_L6 n a0 a1 a2 a1 a0 I).bind fun x756 =>
  if a2 = 0 then
    if ¬ x756 = 0 then
      some (a0 / x756)
    else none
  else
    if ¬ x756 = 0 then
      some (a1 / x756)
    else none
theorem s_Mo_lowest {n : Nat} {a0 : Int64} {a1 : Int64} {a2 : Int32} {I : zI} {r : Int64} (hf : Mo_lowest n a0 a1 a2 I = some r) (d : Nat) (hd : 0 ≤ d) : zCall d 180 [.long a0, .long a1, .int a2] (zHp I) (some (.long r)) (zHp I) := by
  rw [Mo_lowest] at hf
  show zEv _ _ _ (0, [some (.long a0), none, some (.long a1), none, some (.int a2), none, none, none, none, none, none], []) _ _ _
  obtain ⟨x756, hx, hf⟩ := Option.bind_eq_some_iff.mp hf
  refine zEv_go 4 (f1 := (6, [some (.long a0), none, some (.long a1), none, some (.int a2), some (.long a1), none, some (.long a0), none, none, none], [])) (h1 := zHp I) (fun n => rfl) ?_
  refine zEv_weak (L := [some (.long a0), none, some (.long a1), none, some (.int a2), some (.long a1), none, some (.long a0), none, none, none]) (by exact ⟨rfl, ⟨rfl, ⟨rfl, ⟨rfl, ⟨rfl, ⟨rfl, ⟨rfl, ⟨rfl, ⟨rfl, ⟨rfl, ⟨rfl, trivial⟩⟩⟩⟩⟩⟩⟩⟩⟩⟩⟩) (s_Mo_lowest_L6 (d) (by omega) n hx ?_)
  refine zEv_if 2 (c := a2 = 0) (f1 := (36, [some (.long a0), none, some (.long a1), none, some (.int a2), some (.long x756), none, none, none, none, none], [])) (f2 := (43, [some (.long a0), none, some (.long a1), none, some (.int a2), some (.long x756), none, none, none, none, none], [])) (h1 := zHp I) (fun n => rfl) (fun hc => ?_) (fun hc => ?_)
  · rw [if_pos hc] at hf
    obtain ⟨hc, hf⟩ := zGd_inv hf
    refine zEv_gd 3 (c := ¬ x756 = 0) (f1 := (40, [some (.long a0), none, some (.long a1), none, some (.int a2), some (.long x756), none, none, none, none, none], [.long (a0 / x756)])) (h1 := zHp I) (fun n => rfl) hc ?_
    cases hf
    exact zEv_ret 2 (fun n => rfl)
  · rw [if_neg hc] at hf
    obtain ⟨hc, hf⟩ := zGd_inv hf
    refine zEv_gd 3 (c := ¬ x756 = 0) (f1 := (47, [some (.long a0), none, some (.long a1), none, some (.int a2), some (.long x756), none, none, none, none, none], [.long (a1 / x756)])) (h1 := zHp I) (fun n => rfl) hc ?_
    cases hf
    exact zEv_ret 1 (fun n => rfl)
def Mo_evenings_L58 : Nat → Int32 → Int32 → Int32 → Int32 → Int64 → Int64 → Int32 → zI → Option (Int64 × Int64)
  | 0, _, _, _, _, _, _, _, _ => none
  | n + 1, v1, v2, v3, v4, v5, v7, v9, I =>
    if v1 ≤ v9 then
      some (v5, v7)
    else
      Mo_evenings_L58 n v1 v2 v3 v4 (v5 * (Int32.toInt64 v2)) (v7 * (Int32.toInt64 (v2 - 1))) (v9 + 1) I
theorem s_Mo_evenings_L58 (d : Nat) (hd : 1 ≤ d) : ∀ (n : Nat) {v1 : Int32} {v2 : Int32} {v3 : Int32} {v4 : Int32} {v5 : Int64} {v7 : Int64} {v9 : Int32} {I : zI} {y5 : Int64} {y7 : Int64} {v : Option Value} {h' : zH}, Mo_evenings_L58 n v1 v2 v3 v4 v5 v7 v9 I = some (y5, y7) → zEv none d 181 (86, [some (.ref 73), none, some (.int v2), some (.int v3), some (.int v4), some (.long y5), none, some (.long y7), none, none], []) (zHp I) v h' → zEv none d 181 (58, [some (.ref 73), some (.int v1), some (.int v2), some (.int v3), some (.int v4), some (.long v5), none, some (.long v7), none, some (.int v9)], []) (zHp I) v h' := by
  obtain ⟨d, rfl⟩ : ∃ e, d = e + 1 := ⟨d - 1, by omega⟩
  intro n
  induction n with
  | zero => intros; rename_i hf _; cases hf
  | succ n ih =>
    intro v1 v2 v3 v4 v5 v7 v9 I y5 y7 v h' hf kk
    rw [Mo_evenings_L58] at hf
    refine zEv_if 3 (c := v1 ≤ v9) (f1 := (86, [some (.ref 73), some (.int v1), some (.int v2), some (.int v3), some (.int v4), some (.long v5), none, some (.long v7), none, some (.int v9)], [])) (f2 := (64, [some (.ref 73), some (.int v1), some (.int v2), some (.int v3), some (.int v4), some (.long v5), none, some (.long v7), none, some (.int v9)], [])) (h1 := zHp I) (fun n => rfl) (fun hc => ?_) (fun hc => ?_)
    · rw [if_pos hc] at hf
      have hq0 := Option.some.inj hf
      obtain ⟨he0, hq1⟩ := Prod.mk.inj hq0
      subst he0
      subst hq1
      exact zEv_weak (L := [some (.ref 73), none, some (.int v2), some (.int v3), some (.int v4), some (.long v5), none, some (.long v7), none, none]) (by exact ⟨rfl, ⟨rfl, ⟨rfl, ⟨rfl, ⟨rfl, ⟨rfl, ⟨rfl, ⟨rfl, ⟨rfl, ⟨rfl, trivial⟩⟩⟩⟩⟩⟩⟩⟩⟩⟩) kk
    · rw [if_neg hc] at hf
      refine zEv_go 14 (f1 := (58, [some (.ref 73), some (.int v1), some (.int v2), some (.int v3), some (.int v4), some (.long (v5 * (Int32.toInt64 v2))), none, some (.long (v7 * (Int32.toInt64 (v2 - 1)))), none, some (.int (v9 + 1))], [])) (h1 := zHp I) (fun n => rfl) ?_
      refine zEv_weak (L := [some (.ref 73), some (.int v1), some (.int v2), some (.int v3), some (.int v4), some (.long (v5 * (Int32.toInt64 v2))), none, some (.long (v7 * (Int32.toInt64 (v2 - 1)))), none, some (.int (v9 + 1))]) (by exact ⟨rfl, ⟨rfl, ⟨rfl, ⟨rfl, ⟨rfl, ⟨rfl, ⟨rfl, ⟨rfl, ⟨rfl, ⟨rfl, trivial⟩⟩⟩⟩⟩⟩⟩⟩⟩⟩) ?_
      exact ih hf kk
def Mo_evenings (n : Nat) (a0 : Int32) (a1 : Int32) (a2 : Int32) (a3 : Int32) (I : zI) : Option (Int64) :=
  (Mo_in (Int32.toInt64 a0) 0 12 I).bind fun x748 =>
  if x748 = 0 then
    some (-1000000000000000002)
  else
    (Mo_in (Int32.toInt64 a1) 1 10 I).bind fun x749 =>
    if x749 = 0 then
      some (-1000000000000000002)
    else
      (Mo_in (Int32.toInt64 a2) 0 1 I).bind fun x750 =>
      if x750 = 0 then
        some (-1000000000000000002)
      else
        (Mo_in (Int32.toInt64 a3) 0 1 I).bind fun x751 =>
        if x751 = 0 then
          some (-1000000000000000002)
        else
          (Mo_evenings_L58 n a0 a1 a2 a3 1 1 0 I).bind fun (x752, x753) =>
          (
            if a2 = 0 then
              some (x752 - x753)
            else
              some ((Int32.toInt64 a1) * (x752 - x753)) : Option (Int64)).bind fun x755 =>
          (Mo_lowest n x755 x752 a3 I).bind fun x757 =>
          some x757
theorem s_Mo_evenings {n : Nat} {a0 : Int32} {a1 : Int32} {a2 : Int32} {a3 : Int32} {I : zI} {r : Int64} (hf : Mo_evenings n a0 a1 a2 a3 I = some r) (d : Nat) (hd : 1 ≤ d) : zCall d 181 [.ref 73, .int a0, .int a1, .int a2, .int a3] (zHp I) (some (.long r)) (zHp I) := by
  obtain ⟨d, rfl⟩ : ∃ e, d = e + 1 := ⟨d - 1, by omega⟩
  rw [Mo_evenings] at hf
  show zEv _ _ _ (0, [some (.ref 73), some (.int a0), some (.int a1), some (.int a2), some (.int a3), none, none, none, none, none], []) _ _ _
  obtain ⟨x748, hx, hf⟩ := Option.bind_eq_some_iff.mp hf
  refine zEv_call 5 (N := 117) (vs := [.long (Int32.toInt64 a0), .long 0, .long 12]) (v1 := some (.int x748)) (h1 := zHp I) (L := [some (.ref 73), some (.int a0), some (.int a1), some (.int a2), some (.int a3), none, none, none, none, none]) (rest := []) (pc := 9) (fun n => rfl) (s_Mo_in hx d (by omega)) rfl rfl ?_
  show zEv _ _ _ (9, [some (.ref 73), some (.int a0), some (.int a1), some (.int a2), some (.int a3), none, none, none, none, none], [.int x748]) _ _ _
  refine zEv_if 1 (c := x748 = 0) (f1 := (45, [some (.ref 73), some (.int a0), some (.int a1), some (.int a2), some (.int a3), none, none, none, none, none], [])) (f2 := (12, [some (.ref 73), some (.int a0), some (.int a1), some (.int a2), some (.int a3), none, none, none, none, none], [])) (h1 := zHp I) (fun n => rfl) (fun hc => ?_) (fun hc => ?_)
  · rw [if_pos hc] at hf
    cases hf
    exact zEv_ret 2 (fun n => rfl)
  · rw [if_neg hc] at hf
    obtain ⟨x749, hx, hf⟩ := Option.bind_eq_some_iff.mp hf
    refine zEv_call 5 (N := 117) (vs := [.long (Int32.toInt64 a1), .long 1, .long 10]) (v1 := some (.int x749)) (h1 := zHp I) (L := [some (.ref 73), some (.int a0), some (.int a1), some (.int a2), some (.int a3), none, none, none, none, none]) (rest := []) (pc := 21) (fun n => rfl) (s_Mo_in hx d (by omega)) rfl rfl ?_
    show zEv _ _ _ (21, [some (.ref 73), some (.int a0), some (.int a1), some (.int a2), some (.int a3), none, none, none, none, none], [.int x749]) _ _ _
    refine zEv_if 1 (c := x749 = 0) (f1 := (45, [some (.ref 73), some (.int a0), some (.int a1), some (.int a2), some (.int a3), none, none, none, none, none], [])) (f2 := (24, [some (.ref 73), some (.int a0), some (.int a1), some (.int a2), some (.int a3), none, none, none, none, none], [])) (h1 := zHp I) (fun n => rfl) (fun hc => ?_) (fun hc => ?_)
    · rw [if_pos hc] at hf
      cases hf
      exact zEv_ret 2 (fun n => rfl)
    · rw [if_neg hc] at hf
      obtain ⟨x750, hx, hf⟩ := Option.bind_eq_some_iff.mp hf
      refine zEv_call 5 (N := 117) (vs := [.long (Int32.toInt64 a2), .long 0, .long 1]) (v1 := some (.int x750)) (h1 := zHp I) (L := [some (.ref 73), some (.int a0), some (.int a1), some (.int a2), some (.int a3), none, none, none, none, none]) (rest := []) (pc := 31) (fun n => rfl) (s_Mo_in hx d (by omega)) rfl rfl ?_
      show zEv _ _ _ (31, [some (.ref 73), some (.int a0), some (.int a1), some (.int a2), some (.int a3), none, none, none, none, none], [.int x750]) _ _ _
      refine zEv_if 1 (c := x750 = 0) (f1 := (45, [some (.ref 73), some (.int a0), some (.int a1), some (.int a2), some (.int a3), none, none, none, none, none], [])) (f2 := (34, [some (.ref 73), some (.int a0), some (.int a1), some (.int a2), some (.int a3), none, none, none, none, none], [])) (h1 := zHp I) (fun n => rfl) (fun hc => ?_) (fun hc => ?_)
      · rw [if_pos hc] at hf
        cases hf
        exact zEv_ret 2 (fun n => rfl)
      · rw [if_neg hc] at hf
        obtain ⟨x751, hx, hf⟩ := Option.bind_eq_some_iff.mp hf
        refine zEv_call 5 (N := 117) (vs := [.long (Int32.toInt64 a3), .long 0, .long 1]) (v1 := some (.int x751)) (h1 := zHp I) (L := [some (.ref 73), some (.int a0), some (.int a1), some (.int a2), some (.int a3), none, none, none, none, none]) (rest := []) (pc := 42) (fun n => rfl) (s_Mo_in hx d (by omega)) rfl rfl ?_
        show zEv _ _ _ (42, [some (.ref 73), some (.int a0), some (.int a1), some (.int a2), some (.int a3), none, none, none, none, none], [.int x751]) _ _ _
        refine zEv_if 1 (c := x751 = 0) (f1 := (45, [some (.ref 73), some (.int a0), some (.int a1), some (.int a2), some (.int a3), none, none, none, none, none], [])) (f2 := (49, [some (.ref 73), some (.int a0), some (.int a1), some (.int a2), some (.int a3), none, none, none, none, none], [])) (h1 := zHp I) (fun n => rfl) (fun hc => ?_) (fun hc => ?_)
        · rw [if_pos hc] at hf
          cases hf
          exact zEv_ret 2 (fun n => rfl)
        · rw [if_neg hc] at hf
          obtain ⟨⟨x752, x753⟩, hx, hf⟩ := Option.bind_eq_some_iff.mp hf
          dsimp only at hf
          refine zEv_go 6 (f1 := (58, [some (.ref 73), some (.int a0), some (.int a1), some (.int a2), some (.int a3), some (.long 1), none, some (.long 1), none, some (.int 0)], [])) (h1 := zHp I) (fun n => rfl) ?_
          refine zEv_weak (L := [some (.ref 73), some (.int a0), some (.int a1), some (.int a2), some (.int a3), some (.long 1), none, some (.long 1), none, some (.int 0)]) (by exact ⟨rfl, ⟨rfl, ⟨rfl, ⟨rfl, ⟨rfl, ⟨rfl, ⟨rfl, ⟨rfl, ⟨rfl, ⟨rfl, trivial⟩⟩⟩⟩⟩⟩⟩⟩⟩⟩) (s_Mo_evenings_L58 (d + 1) (by omega) n hx ?_)
          obtain ⟨x755, hm_m754, hf⟩ := Option.bind_eq_some_iff.mp hf
          have hJ_m754 : zEv none (d + 1) 181 (106, [some (.ref 73), none, none, none, some (.int a3), some (.long x752), none, none, none, none], [.long x755]) (zHp I) (some (.long r)) (zHp I) := by
            obtain ⟨x757, hx, hf⟩ := Option.bind_eq_some_iff.mp hf
            refine zEv_call 3 (N := 180) (vs := [.long x755, .long x752, .int a3]) (v1 := some (.long x757)) (h1 := zHp I) (L := [some (.ref 73), none, none, none, some (.int a3), some (.long x752), none, none, none, none]) (rest := []) (pc := 113) (fun n => rfl) (s_Mo_lowest hx d (by omega)) rfl rfl ?_
            show zEv _ _ _ (113, [some (.ref 73), none, none, none, some (.int a3), some (.long x752), none, none, none, none], [.long x757]) _ _ _
            cases hf
            exact zEv_ret 1 (fun n => rfl)
          clear hf
          refine zEv_if 2 (c := a2 = 0) (f1 := (90, [some (.ref 73), none, some (.int a1), some (.int a2), some (.int a3), some (.long x752), none, some (.long x753), none, none], [])) (f2 := (98, [some (.ref 73), none, some (.int a1), some (.int a2), some (.int a3), some (.long x752), none, some (.long x753), none, none], [])) (h1 := zHp I) (fun n => rfl) (fun hc => ?_) (fun hc => ?_)
          · rw [if_pos hc] at hm_m754
            obtain rfl := Option.some.inj hm_m754
            refine zEv_go 4 (f1 := (106, [some (.ref 73), none, some (.int a1), some (.int a2), some (.int a3), some (.long x752), none, some (.long x753), none, none], [.long (x752 - x753)])) (h1 := zHp I) (fun n => rfl) ?_
            exact zEv_weak (L := [some (.ref 73), none, none, none, some (.int a3), some (.long x752), none, none, none, none]) (by exact ⟨rfl, ⟨rfl, ⟨rfl, ⟨rfl, ⟨rfl, ⟨rfl, ⟨rfl, ⟨rfl, ⟨rfl, ⟨rfl, trivial⟩⟩⟩⟩⟩⟩⟩⟩⟩⟩) hJ_m754
          · rw [if_neg hc] at hm_m754
            obtain rfl := Option.some.inj hm_m754
            refine zEv_go 6 (f1 := (106, [some (.ref 73), none, some (.int a1), some (.int a2), some (.int a3), some (.long x752), none, some (.long x753), none, none], [.long ((Int32.toInt64 a1) * (x752 - x753))])) (h1 := zHp I) (fun n => rfl) ?_
            exact zEv_weak (L := [some (.ref 73), none, none, none, some (.int a3), some (.long x752), none, none, none, none]) (by exact ⟨rfl, ⟨rfl, ⟨rfl, ⟨rfl, ⟨rfl, ⟨rfl, ⟨rfl, ⟨rfl, ⟨rfl, ⟨rfl, trivial⟩⟩⟩⟩⟩⟩⟩⟩⟩⟩) hJ_m754
def Mo_seasonOne (n : Nat) (a0 : Int32) (a1 : Int32) (a2 : Int32) (I : zI) : Option (zI) :=
  (
    if 3 ≤ a1 then
      if 5 ≤ a1 then
        if a1 = 5 then
          some 2
        else
          if a1 = 6 then
            some 3
          else
            some 5
      else
        some 1
    else
      some 0 : Option (Int32)).bind fun x763 =>
  (
    if x763 = 0 then
      some 10
    else
      some 8 : Option (Int32)).bind fun x765 =>
  if ¬ x765 = 0 then
    (
      if x763 = 3 then
        if (zRem a2 x765) = 0 then
          some 1
        else
          some 0
      else
        some 1 : Option (Int32)).bind fun x767 =>
    if x767 = 0 then
      some I
    else
      (Mo_whyNot x763 a0 (zRem a2 x765) I).bind fun x768 =>
      if x768 = 0 then
        (Mo_happen n x763 a0 (zRem a2 x765) I).bind fun I769 =>
        some I769
      else
        some I
  else none
theorem s_Mo_seasonOne {n : Nat} {a0 : Int32} {a1 : Int32} {a2 : Int32} {I : zI} {I' : zI} (hf : Mo_seasonOne n a0 a1 a2 I = some I') (d : Nat) (hd : 3 ≤ d) : zCall d 182 [.ref 73, .int a0, .int a1, .int a2] (zHp I) (none) (zHp I') := by
  obtain ⟨d, rfl⟩ : ∃ e, d = e + 1 := ⟨d - 1, by omega⟩
  rw [Mo_seasonOne] at hf
  show zEv _ _ _ (0, [some (.ref 73), some (.int a0), some (.int a1), some (.int a2), none, none, none], []) _ _ _
  obtain ⟨x763, hm_m762, hf⟩ := Option.bind_eq_some_iff.mp hf
  have hJ_m762 : zEv none (d + 1) 182 (38, [some (.ref 73), some (.int a0), none, some (.int a2), none, none, none], [.int x763]) (zHp I) (none) (zHp I') := by
    obtain ⟨x765, hm_m764, hf⟩ := Option.bind_eq_some_iff.mp hf
    have hJ_m764 : zEv none (d + 1) 182 (53, [some (.ref 73), some (.int a0), none, none, some (.int x763), none, none], [.int x765, .int a2]) (zHp I) (none) (zHp I') := by
      obtain ⟨hc, hf⟩ := zGd_inv hf
      refine zEv_gd 1 (c := ¬ x765 = 0) (f1 := (54, [some (.ref 73), some (.int a0), none, none, some (.int x763), none, none], [.int (zRem a2 x765)])) (h1 := zHp I) (fun n => rfl) hc ?_
      obtain ⟨x767, hm_m766, hf⟩ := Option.bind_eq_some_iff.mp hf
      have hJ_m766 : zEv none (d + 1) 182 (72, [some (.ref 73), some (.int a0), none, none, some (.int x763), some (.int (zRem a2 x765)), none], [.int x767]) (zHp I) (none) (zHp I') := by
        refine zEv_if 3 (c := x767 = 0) (f1 := (100, [some (.ref 73), some (.int a0), none, none, some (.int x763), some (.int (zRem a2 x765)), some (.int x767)], [])) (f2 := (79, [some (.ref 73), some (.int a0), none, none, some (.int x763), some (.int (zRem a2 x765)), some (.int x767)], [])) (h1 := zHp I) (fun n => rfl) (fun hc => ?_) (fun hc => ?_)
        · rw [if_pos hc] at hf
          cases hf
          exact zEv_ret 1 (fun n => rfl)
        · rw [if_neg hc] at hf
          obtain ⟨x768, hx, hf⟩ := Option.bind_eq_some_iff.mp hf
          refine zEv_call 5 (N := 141) (vs := [.ref 73, .int x763, .int a0, .int (zRem a2 x765)]) (v1 := some (.int x768)) (h1 := zHp I) (L := [some (.ref 73), some (.int a0), none, none, some (.int x763), some (.int (zRem a2 x765)), some (.int x767)]) (rest := []) (pc := 88) (fun n => rfl) (s_Mo_whyNot hx d (by omega)) rfl rfl ?_
          show zEv _ _ _ (88, [some (.ref 73), some (.int a0), none, none, some (.int x763), some (.int (zRem a2 x765)), some (.int x767)], [.int x768]) _ _ _
          refine zEv_if 1 (c := x768 = 0) (f1 := (91, [some (.ref 73), some (.int a0), none, none, some (.int x763), some (.int (zRem a2 x765)), some (.int x767)], [])) (f2 := (100, [some (.ref 73), some (.int a0), none, none, some (.int x763), some (.int (zRem a2 x765)), some (.int x767)], [])) (h1 := zHp I) (fun n => rfl) (fun hc => ?_) (fun hc => ?_)
          · rw [if_pos hc] at hf
            obtain ⟨I769, hx, hf⟩ := Option.bind_eq_some_iff.mp hf
            refine zEv_call 5 (N := 146) (vs := [.ref 73, .int x763, .int a0, .int (zRem a2 x765)]) (v1 := none) (h1 := zHp I769) (L := [some (.ref 73), some (.int a0), none, none, some (.int x763), some (.int (zRem a2 x765)), some (.int x767)]) (rest := []) (pc := 100) (fun n => rfl) (s_Mo_happen hx d (by omega)) rfl rfl ?_
            show zEv _ _ _ (100, [some (.ref 73), some (.int a0), none, none, some (.int x763), some (.int (zRem a2 x765)), some (.int x767)], []) _ _ _
            cases hf
            exact zEv_ret 1 (fun n => rfl)
          · rw [if_neg hc] at hf
            cases hf
            exact zEv_ret 1 (fun n => rfl)
      clear hf
      refine zEv_if 4 (c := x763 = 3) (f1 := (62, [some (.ref 73), some (.int a0), none, none, some (.int x763), some (.int (zRem a2 x765)), none], [])) (f2 := (67, [some (.ref 73), some (.int a0), none, none, some (.int x763), some (.int (zRem a2 x765)), none], [])) (h1 := zHp I) (fun n => rfl) (fun hc => ?_) (fun hc => ?_)
      · rw [if_pos hc] at hm_m766
        refine zEv_if 2 (c := (zRem a2 x765) = 0) (f1 := (67, [some (.ref 73), some (.int a0), none, none, some (.int x763), some (.int (zRem a2 x765)), none], [])) (f2 := (71, [some (.ref 73), some (.int a0), none, none, some (.int x763), some (.int (zRem a2 x765)), none], [])) (h1 := zHp I) (fun n => rfl) (fun hc => ?_) (fun hc => ?_)
        · rw [if_pos hc] at hm_m766
          obtain rfl := Option.some.inj hm_m766
          refine zEv_go 2 (f1 := (72, [some (.ref 73), some (.int a0), none, none, some (.int x763), some (.int (zRem a2 x765)), none], [.int 1])) (h1 := zHp I) (fun n => rfl) ?_
          exact zEv_weak (L := [some (.ref 73), some (.int a0), none, none, some (.int x763), some (.int (zRem a2 x765)), none]) (by exact ⟨rfl, ⟨rfl, ⟨rfl, ⟨rfl, ⟨rfl, ⟨rfl, ⟨rfl, trivial⟩⟩⟩⟩⟩⟩⟩) hJ_m766
        · rw [if_neg hc] at hm_m766
          obtain rfl := Option.some.inj hm_m766
          refine zEv_go 1 (f1 := (72, [some (.ref 73), some (.int a0), none, none, some (.int x763), some (.int (zRem a2 x765)), none], [.int 0])) (h1 := zHp I) (fun n => rfl) ?_
          exact zEv_weak (L := [some (.ref 73), some (.int a0), none, none, some (.int x763), some (.int (zRem a2 x765)), none]) (by exact ⟨rfl, ⟨rfl, ⟨rfl, ⟨rfl, ⟨rfl, ⟨rfl, ⟨rfl, trivial⟩⟩⟩⟩⟩⟩⟩) hJ_m766
      · rw [if_neg hc] at hm_m766
        obtain rfl := Option.some.inj hm_m766
        refine zEv_go 2 (f1 := (72, [some (.ref 73), some (.int a0), none, none, some (.int x763), some (.int (zRem a2 x765)), none], [.int 1])) (h1 := zHp I) (fun n => rfl) ?_
        exact zEv_weak (L := [some (.ref 73), some (.int a0), none, none, some (.int x763), some (.int (zRem a2 x765)), none]) (by exact ⟨rfl, ⟨rfl, ⟨rfl, ⟨rfl, ⟨rfl, ⟨rfl, ⟨rfl, trivial⟩⟩⟩⟩⟩⟩⟩) hJ_m766
    clear hf
    refine zEv_if 4 (c := x763 = 0) (f1 := (46, [some (.ref 73), some (.int a0), none, some (.int a2), some (.int x763), none, none], [.int a2])) (f2 := (51, [some (.ref 73), some (.int a0), none, some (.int a2), some (.int x763), none, none], [.int a2])) (h1 := zHp I) (fun n => rfl) (fun hc => ?_) (fun hc => ?_)
    · rw [if_pos hc] at hm_m764
      obtain rfl := Option.some.inj hm_m764
      refine zEv_go 2 (f1 := (53, [some (.ref 73), some (.int a0), none, some (.int a2), some (.int x763), none, none], [.int 10, .int a2])) (h1 := zHp I) (fun n => rfl) ?_
      exact zEv_weak (L := [some (.ref 73), some (.int a0), none, none, some (.int x763), none, none]) (by exact ⟨rfl, ⟨rfl, ⟨rfl, ⟨rfl, ⟨rfl, ⟨rfl, ⟨rfl, trivial⟩⟩⟩⟩⟩⟩⟩) hJ_m764
    · rw [if_neg hc] at hm_m764
      obtain rfl := Option.some.inj hm_m764
      refine zEv_go 1 (f1 := (53, [some (.ref 73), some (.int a0), none, some (.int a2), some (.int x763), none, none], [.int 8, .int a2])) (h1 := zHp I) (fun n => rfl) ?_
      exact zEv_weak (L := [some (.ref 73), some (.int a0), none, none, some (.int x763), none, none]) (by exact ⟨rfl, ⟨rfl, ⟨rfl, ⟨rfl, ⟨rfl, ⟨rfl, ⟨rfl, trivial⟩⟩⟩⟩⟩⟩⟩) hJ_m764
  clear hf
  refine zEv_if 3 (c := 3 ≤ a1) (f1 := (9, [some (.ref 73), some (.int a0), some (.int a1), some (.int a2), none, none, none], [])) (f2 := (5, [some (.ref 73), some (.int a0), some (.int a1), some (.int a2), none, none, none], [])) (h1 := zHp I) (fun n => rfl) (fun hc => ?_) (fun hc => ?_)
  · rw [if_pos hc] at hm_m762
    refine zEv_if 3 (c := 5 ≤ a1) (f1 := (18, [some (.ref 73), some (.int a0), some (.int a1), some (.int a2), none, none, none], [])) (f2 := (14, [some (.ref 73), some (.int a0), some (.int a1), some (.int a2), none, none, none], [])) (h1 := zHp I) (fun n => rfl) (fun hc => ?_) (fun hc => ?_)
    · rw [if_pos hc] at hm_m762
      refine zEv_if 3 (c := a1 = 5) (f1 := (23, [some (.ref 73), some (.int a0), some (.int a1), some (.int a2), none, none, none], [])) (f2 := (27, [some (.ref 73), some (.int a0), some (.int a1), some (.int a2), none, none, none], [])) (h1 := zHp I) (fun n => rfl) (fun hc => ?_) (fun hc => ?_)
      · rw [if_pos hc] at hm_m762
        obtain rfl := Option.some.inj hm_m762
        refine zEv_go 2 (f1 := (38, [some (.ref 73), some (.int a0), some (.int a1), some (.int a2), none, none, none], [.int 2])) (h1 := zHp I) (fun n => rfl) ?_
        exact zEv_weak (L := [some (.ref 73), some (.int a0), none, some (.int a2), none, none, none]) (by exact ⟨rfl, ⟨rfl, ⟨rfl, ⟨rfl, ⟨rfl, ⟨rfl, ⟨rfl, trivial⟩⟩⟩⟩⟩⟩⟩) hJ_m762
      · rw [if_neg hc] at hm_m762
        refine zEv_if 3 (c := a1 = 6) (f1 := (33, [some (.ref 73), some (.int a0), some (.int a1), some (.int a2), none, none, none], [])) (f2 := (37, [some (.ref 73), some (.int a0), some (.int a1), some (.int a2), none, none, none], [])) (h1 := zHp I) (fun n => rfl) (fun hc => ?_) (fun hc => ?_)
        · rw [if_pos hc] at hm_m762
          obtain rfl := Option.some.inj hm_m762
          refine zEv_go 2 (f1 := (38, [some (.ref 73), some (.int a0), some (.int a1), some (.int a2), none, none, none], [.int 3])) (h1 := zHp I) (fun n => rfl) ?_
          exact zEv_weak (L := [some (.ref 73), some (.int a0), none, some (.int a2), none, none, none]) (by exact ⟨rfl, ⟨rfl, ⟨rfl, ⟨rfl, ⟨rfl, ⟨rfl, ⟨rfl, trivial⟩⟩⟩⟩⟩⟩⟩) hJ_m762
        · rw [if_neg hc] at hm_m762
          obtain rfl := Option.some.inj hm_m762
          refine zEv_go 1 (f1 := (38, [some (.ref 73), some (.int a0), some (.int a1), some (.int a2), none, none, none], [.int 5])) (h1 := zHp I) (fun n => rfl) ?_
          exact zEv_weak (L := [some (.ref 73), some (.int a0), none, some (.int a2), none, none, none]) (by exact ⟨rfl, ⟨rfl, ⟨rfl, ⟨rfl, ⟨rfl, ⟨rfl, ⟨rfl, trivial⟩⟩⟩⟩⟩⟩⟩) hJ_m762
    · rw [if_neg hc] at hm_m762
      obtain rfl := Option.some.inj hm_m762
      refine zEv_go 2 (f1 := (38, [some (.ref 73), some (.int a0), some (.int a1), some (.int a2), none, none, none], [.int 1])) (h1 := zHp I) (fun n => rfl) ?_
      exact zEv_weak (L := [some (.ref 73), some (.int a0), none, some (.int a2), none, none, none]) (by exact ⟨rfl, ⟨rfl, ⟨rfl, ⟨rfl, ⟨rfl, ⟨rfl, ⟨rfl, trivial⟩⟩⟩⟩⟩⟩⟩) hJ_m762
  · rw [if_neg hc] at hm_m762
    obtain rfl := Option.some.inj hm_m762
    refine zEv_go 2 (f1 := (38, [some (.ref 73), some (.int a0), some (.int a1), some (.int a2), none, none, none], [.int 0])) (h1 := zHp I) (fun n => rfl) ?_
    exact zEv_weak (L := [some (.ref 73), some (.int a0), none, some (.int a2), none, none, none]) (by exact ⟨rfl, ⟨rfl, ⟨rfl, ⟨rfl, ⟨rfl, ⟨rfl, ⟨rfl, trivial⟩⟩⟩⟩⟩⟩⟩) hJ_m762
