/-! the law, from its first instruction -/
theorem zEv_law (L : Nat) (xs : Nat → Int32) (hL : L ≤ 2560) : ∃ J, zEv (some (L, xs)) 8 199 zf0 zh0 (some (.int 1)) (zHp J) := by
  obtain ⟨J1, J, a1, a2, a3⟩ := zboot (zRow (fun _ _ => 0) 1 (fun _ => 0)) (fun i => rfl) (n := 1000) (by decide)
  obtain ⟨I', b1⟩ := zlawL xs hL 512 0 6000 J (by omega) (by omega) (by decide) a3
  refine ⟨I', ?_⟩
  unfold zf0 zh0
  refine zEv_gd 1 (c := zVs 0 [some (.ref 0), none, none, none] [] = true ∧ zHok (zSa0, zRa0, fun _ _ => 0) = true) (f1 := (3, [some (.ref 0), none, none, none], [.ref 1])) (h1 := (zSa1, zRa0, zRow (fun _ _ => 0) 1 (fun _ => 0))) (fun n => rfl) ⟨rfl, zHk_0_0 _⟩ ?_
  refine zEv_calln 2 (N := 78) (vs := [.ref 1]) (v1 := none) (h1 := (zSa72, zRa71, J1)) (L := [some (.ref 0), none, none, none]) (rest := [.ref 1]) (pc := 7) (fun n => rfl) (s_ziBM_1_h1_0 a1 7 (by omega)) rfl rfl ?_
  show zEv _ _ _ (7, [some (.ref 0), none, none, none], [.ref 1]) _ _ _
  refine zEv_gd 2 (c := zVs 72 [some (.ref 0), some (.ref 1), none, none] [] = true ∧ zHok (zSa72, zRa71, J1) = true) (f1 := (11, [some (.ref 0), some (.ref 1), none, none], [.ref 73])) (h1 := (zSa73, zRa71, zRow J1 73 (fun _ => 0))) (fun n => rfl) ⟨rfl, zHk_72_71 _⟩ ?_
  refine zEv_calln 2 (N := 116) (vs := [.ref 73]) (v1 := none) (h1 := (zSa95, zRa93, J)) (L := [some (.ref 0), some (.ref 1), none, none]) (rest := [.ref 73]) (pc := 15) (fun n => rfl) (s_ziMo_73_h73_71 a2 7 (by omega)) rfl rfl ?_
  show zEv _ _ _ (15, [some (.ref 0), some (.ref 1), none, none], [.ref 73]) _ _ _
  refine zEv_go 3 (f1 := (18, [some (.ref 0), some (.ref 1), some (.ref 73), some (.int 0)], [])) (h1 := zHp J) (fun n => rfl) ?_
  exact s_La_law_L18 L xs 8 (by decide) 6000 b1
theorem zlaw_all (L : Nat) (xs : Nat → Int32) (hL : L ≤ 2560) : zLaw L xs := by
  obtain ⟨J, n, hn⟩ := zEv_law L xs hL
  refine ⟨n, zHp J, hn, ?_, ?_⟩
  · show zS.length ≤ 600000
    decide
  · show zSl (zHp (fun _ _ => 0)) ≤ 7302250
    decide +kernel
