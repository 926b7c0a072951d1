/-! rules for walking the interpreter -/
theorem zEv_ret {xs : zX} {d M : Nat} {f : zFr} {h h' : zH} {v : Option Value} (k : Nat) (hb : ∀ n, zrun xs (n + k) d M f h = some (v, h')) : zEv xs d M f h v h' := ⟨0 + k, hb 0⟩
theorem zEv_go {xs : zX} {d M : Nat} {f f1 : zFr} {h h1 h' : zH} {v : Option Value} (k : Nat) (hb : ∀ n, zrun xs (n + k) d M f h = zrun xs n d M f1 h1) (kk : zEv xs d M f1 h1 v h') : zEv xs d M f h v h' := by
  obtain ⟨n, hn⟩ := kk
  exact ⟨n + k, (hb n).trans hn⟩
theorem zEv_if {xs : zX} {d M : Nat} {f f1 f2 : zFr} {h h1 h' : zH} {v : Option Value} (k : Nat) {c : Prop} [Decidable c] (hb : ∀ n, zrun xs (n + k) d M f h = if c then zrun xs n d M f1 h1 else zrun xs n d M f2 h1) (k1 : c → zEv xs d M f1 h1 v h') (k2 : ¬ c → zEv xs d M f2 h1 v h') : zEv xs d M f h v h' := by
  by_cases hc : c
  · obtain ⟨n, hn⟩ := k1 hc
    exact ⟨n + k, (hb n).trans ((if_pos hc).trans hn)⟩
  · obtain ⟨n, hn⟩ := k2 hc
    exact ⟨n + k, (hb n).trans ((if_neg hc).trans hn)⟩
theorem zEv_gd {xs : zX} {d M : Nat} {f f1 : zFr} {h h1 h' : zH} {v : Option Value} (k : Nat) {c : Prop} [Decidable c] (hb : ∀ n, zrun xs (n + k) d M f h = if c then zrun xs n d M f1 h1 else none) (hc : c) (k1 : zEv xs d M f1 h1 v h') : zEv xs d M f h v h' := by
  obtain ⟨n, hn⟩ := k1
  exact ⟨n + k, (hb n).trans ((if_pos hc).trans hn)⟩
theorem zEv_rt {xs : zX} {d M : Nat} {f : zFr} {h h' : zH} {v : Option Value} {c : Prop} [Decidable c] (hc : c) (k : Nat) (hb : ∀ n, zrun xs (n + k) d M f h = if c then some (v, h') else none) : zEv xs d M f h v h' := ⟨0 + k, (hb 0).trans (if_pos hc)⟩
theorem zGd_inv {α : Type} {c : Prop} [Decidable c] {a : Option α} {r : α} (h : (if c then a else none) = some r) : c ∧ a = some r := by
  by_cases hc : c
  · rw [if_pos hc] at h
    exact ⟨hc, h⟩
  · rw [if_neg hc] at h
    cases h
/-- what isn't told of the locals, but for references -/
def zLw : List (Option Value) → List (Option Value) → Prop
  | [], [] => True
  | none :: t, o :: t' => zNr o = true ∧ zLw t t'
  | some v :: t, some v' :: t' => v = v' ∧ zLw t t'
  | _, _ => False
theorem zLw_rf : ∀ (L : List (Option Value)), zLw L L
  | [] => trivial
  | none :: t => ⟨rfl, zLw_rf t⟩
  | some _ :: t => ⟨rfl, zLw_rf t⟩
theorem zLw_len : ∀ {L L' : List (Option Value)}, zLw L L' → L'.length = L.length
  | [], [], _ => rfl
  | none :: t, _ :: t', h => congrArg (· + 1) (zLw_len h.2)
  | some _ :: t, some _ :: t', h => congrArg (· + 1) (zLw_len h.2)
theorem zLw_get : ∀ {L L' : List (Option Value)} (i : Nat), zLw L L' → (∀ v, L[i]? = some (some v) → L'[i]? = some (some v)) ∧ (L[i]? = some none → ∃ o, L'[i]? = some o ∧ zNr o = true) ∧ (L[i]? = none → L'[i]? = none)
  | [], [], i, _ => ⟨fun v h => (by simp at h), fun h => (by simp at h), fun _ => rfl⟩
  | none :: t, o :: t', 0, h => ⟨fun v h => (by simp at h), fun _ => ⟨o, rfl, h.1⟩, fun h => (by simp at h)⟩
  | none :: t, o :: t', i + 1, h => zLw_get i h.2
  | some v :: t, some v' :: t', 0, h => ⟨fun w hw => (by rw [← h.1]; exact hw), fun h => (by simp at h), fun h => (by simp at h)⟩
  | some v :: t, some v' :: t', i + 1, h => zLw_get i h.2
theorem zLw_set : ∀ {L L' : List (Option Value)} (i : Nat) (o : Option Value), zLw L L' → zLw (L.set i o) (L'.set i o)
  | [], [], i, o, _ => trivial
  | none :: t, q :: t', 0, none, h => ⟨rfl, h.2⟩
  | none :: t, q :: t', 0, some v, h => ⟨rfl, h.2⟩
  | none :: t, q :: t', i + 1, o, h => ⟨h.1, zLw_set i o h.2⟩
  | some v :: t, some v' :: t', 0, none, h => ⟨rfl, h.2⟩
  | some v :: t, some v' :: t', 0, some w, h => ⟨rfl, h.2⟩
  | some v :: t, some v' :: t', i + 1, o, h => ⟨h.1, zLw_set i o h.2⟩
theorem zLw_no : ∀ {L L' : List (Option Value)} (i : Nat), L[i]? = some none → zLw L L' → zLw L (L'.set i none)
  | [], [], i, h, _ => by simp at h
  | none :: t, q :: t', 0, _, h => ⟨rfl, h.2⟩
  | none :: t, q :: t', i + 1, h0, h => ⟨h.1, zLw_no i h0 h.2⟩
  | some v :: t, some v' :: t', 0, h0, _ => by simp at h0
  | some v :: t, some v' :: t', i + 1, h0, h => ⟨h.1, zLw_no i h0 h.2⟩
theorem zLw_clr {L L' : List (Option Value)} (i : Nat) (h : zLw L L') : zLw (zClr i L) (zClr i L') := by
  cases i with
  | zero => exact h
  | succ j =>
    obtain ⟨g1, g2, g3⟩ := zLw_get j h
    unfold zClr
    simp only
    cases hj : L[j]? with
    | none => rw [g3 hj]; exact h
    | some o =>
      cases o with
      | none =>
        obtain ⟨o', h1, h2⟩ := g2 hj
        rw [h1]
        cases o' with
        | none => exact h
        | some v =>
          simp only
          split
          · exact zLw_no j hj h
          · exact h
      | some v =>
        rw [g1 v hj]
        simp only
        split
        · exact zLw_set j none h
        · exact h
theorem zLw_s1 {L L' : List (Option Value)} {i : Nat} {v : Value} (h : zLw L L') : zLw (zS1 L i v) (zS1 L' i v) := zLw_set i (some v) (zLw_clr i h)
theorem zLw_s2 {L L' : List (Option Value)} {i : Nat} {v : Value} (h : zLw L L') : zLw (zS2 L i v) (zS2 L' i v) := zLw_set (i + 1) none (zLw_set i (some v) (zLw_clr i h))
theorem zLw_all {n : Nat} : ∀ {L L' : List (Option Value)}, zLw L L' → (L.all fun o => match o with
  | some v => zVk n v
  | none => true) = true → (L'.all fun o => match o with
  | some v => zVk n v
  | none => true) = true
  | [], [], _, _ => rfl
  | none :: t, o :: t', h, hv => by
    rw [List.all_cons, Bool.and_eq_true] at hv ⊢
    refine ⟨?_, zLw_all h.2 hv.2⟩
    cases o with
    | none => rfl
    | some v =>
      have h1 := h.1
      cases v <;> first | rfl | cases h1
  | some v :: t, some v' :: t', h, hv => by
    rw [List.all_cons, Bool.and_eq_true] at hv ⊢
    refine ⟨?_, zLw_all h.2 hv.2⟩
    rw [← h.1]
    exact hv.1
theorem zLw_vs {n : Nat} {L L' : List (Option Value)} {st : List Value} (h : zLw L L') (hv : zVs n L st = true) : zVs n L' st = true := by
  unfold zVs at hv ⊢
  rw [Bool.and_eq_true] at hv ⊢
  exact ⟨zLw_all h hv.1, hv.2⟩
theorem zLI_up {L L' : List (Option Value)} {i : Nat} {k k' : Int32 → zR} {R : Option Value × zH} (h : zLw L L') (hk : ∀ x, k x = some R → k' x = some R) (hr : zLI L i k = some R) : zLI L' i k' = some R := by
  obtain ⟨x, hx, hr⟩ := zLI_inv hr
  unfold zLI
  rw [(zLw_get i h).1 _ hx]
  exact hk x hr
theorem zLJ_up {L L' : List (Option Value)} {i : Nat} {k k' : Int64 → zR} {R : Option Value × zH} (h : zLw L L') (hk : ∀ x, k x = some R → k' x = some R) (hr : zLJ L i k = some R) : zLJ L' i k' = some R := by
  obtain ⟨x, hx, hr⟩ := zLJ_inv hr
  unfold zLJ
  rw [(zLw_get i h).1 _ hx]
  exact hk x hr
theorem zLA_up {L L' : List (Option Value)} {i : Nat} {k k' : Nat → zR} {R : Option Value × zH} (h : zLw L L') (hk : ∀ x, k x = some R → k' x = some R) (hr : zLA L i k = some R) : zLA L' i k' = some R := by
  obtain ⟨x, hx, hr⟩ := zLA_inv hr
  unfold zLA
  rw [(zLw_get i h).1 _ hx]
  exact hk x hr
theorem zI1_up {st : List Value} {k k' : Int32 → List Value → zR} {R : Option Value × zH} (hk : ∀ x r, k x r = some R → k' x r = some R) (hr : zI1 st k = some R) : zI1 st k' = some R := by
  obtain ⟨x, r, rfl, hr⟩ := zI1_inv hr
  exact hk x r (by assumption)
theorem zI2_up {st : List Value} {k k' : Int32 → Int32 → List Value → zR} {R : Option Value × zH} (hk : ∀ x y r, k x y r = some R → k' x y r = some R) (hr : zI2 st k = some R) : zI2 st k' = some R := by
  obtain ⟨x, y, r, rfl, hr⟩ := zI2_inv hr
  exact hk x y r (by assumption)
theorem zJ1_up {st : List Value} {k k' : Int64 → List Value → zR} {R : Option Value × zH} (hk : ∀ x r, k x r = some R → k' x r = some R) (hr : zJ1 st k = some R) : zJ1 st k' = some R := by
  obtain ⟨x, r, rfl, hr⟩ := zJ1_inv hr
  exact hk x r (by assumption)
theorem zJ2_up {st : List Value} {k k' : Int64 → Int64 → List Value → zR} {R : Option Value × zH} (hk : ∀ x y r, k x y r = some R → k' x y r = some R) (hr : zJ2 st k = some R) : zJ2 st k' = some R := by
  obtain ⟨x, y, r, rfl, hr⟩ := zJ2_inv hr
  exact hk x y r (by assumption)
theorem zA1_up {st : List Value} {k k' : Nat → List Value → zR} {R : Option Value × zH} (hk : ∀ x r, k x r = some R → k' x r = some R) (hr : zA1 st k = some R) : zA1 st k' = some R := by
  obtain ⟨x, r, rfl, hr⟩ := zA1_inv hr
  exact hk x r (by assumption)
theorem zTo_up {pc : Nat} {off : Int} {k k' : Nat → zR} {R : Option Value × zH} (hk : ∀ t, k t = some R → k' t = some R) (hr : zTo pc off k = some R) : zTo pc off k' = some R := by
  obtain ⟨t, ht, hr⟩ := zTo_inv hr
  unfold zTo
  rw [ht]
  exact hk t hr
theorem zGo_up {c : Prop} [Decidable c] {k k' : zR} {R : Option Value × zH} (hk : k = some R → k' = some R) (hr : zGo c k = some R) : zGo c k' = some R := by
  obtain ⟨hc, hr⟩ := zGo_inv hr
  unfold zGo
  rw [if_pos hc]
  exact hk hr
theorem zGo_up2 {c c' : Prop} [Decidable c] [Decidable c'] {k k' : zR} {R : Option Value × zH} (hcc : c → c') (hk : k = some R → k' = some R) (hr : zGo c k = some R) : zGo c' k' = some R := by
  obtain ⟨hc, hr⟩ := zGo_inv hr
  unfold zGo
  rw [if_pos (hcc hc)]
  exact hk hr
theorem zCp_up {o i q : Nat} {k k' : Nat → Nat → Int → zR} {R : Option Value × zH} (hk : ∀ a b c, k a b c = some R → k' a b c = some R) (hr : zCp o i q k = some R) : zCp o i q k' = some R := by
  obtain ⟨a, b, c, hcp, hr⟩ := zCp_inv hr
  unfold zCp
  rw [hcp]
  show (if q = q then k' a b c else none) = some R
  rw [if_pos rfl]
  exact hk a b c hr
theorem zCnd_up {c : Jvm.ClassFile.Cond} {x y : Int32} {k1 k2 k1' k2' : zR} {R : Option Value × zH} (h1 : k1 = some R → k1' = some R) (h2 : k2 = some R → k2' = some R) (hr : zCnd c x y k1 k2 = some R) : zCnd c x y k1' k2' = some R := by
  unfold zCnd at hr ⊢
  cases c <;> simp only at hr ⊢ <;> split at hr <;> rename_i hc <;> first | (rw [if_pos hc]; first | exact h1 hr | exact h2 hr) | (rw [if_neg hc]; first | exact h1 hr | exact h2 hr)
theorem zKeep_up {h h' : zH} {L L' : List (Option Value)} {st : List Value} {v : Option Value} {k k' : zR} {R : Option Value × zH} (hl : zLw L L') (hk : k = some R → k' = some R) (hr : zKeep h h' L st v k = some R) : zKeep h h' L' st v k' = some R := by
  unfold zKeep at hr ⊢
  refine zGo_up (fun hr => ?_) hr
  by_cases he : h'.1.length = h.1.length
  · rw [if_pos he] at hr ⊢
    exact hk hr
  · rw [if_neg he] at hr ⊢
    exact zGo_up2 (zLw_vs hl) hk hr
set_option maxHeartbeats 4000000 in
theorem zdo_up {xs : zX} {d o M : Nat} {K K' : zFr → zH → zR} {C C' : Nat → List Value → zH → (Option Value → zH → zR) → zR} {i : Instr} {len pc : Nat} {L L' : List (Option Value)} {st : List Value} {h : zH} {R : Option Value × zH} (hl : zLw L L')
    (hK : ∀ pc L L' st h1, zLw L L' → K (pc, L, st) h1 = some R → K' (pc, L', st) h1 = some R) (hC : ∀ N vs h1 k k', (∀ v h2, k v h2 = some R → k' v h2 = some R) → C N vs h1 k = some R → C' N vs h1 k' = some R)
    (hr : zdo xs d o M K C i len pc L st h = some R) : zdo xs d o M K' C' i len pc L' st h = some R := by
  have g : ∀ {pc : Nat} {st : List Value} {h1 : zH}, K (pc, L, st) h1 = some R → K' (pc, L', st) h1 = some R := fun hr => hK _ _ _ _ _ hl hr
  have hlen := zLw_len hl
  revert hr
  unfold zdo
  split <;> intro hr <;> (try dsimp only)
  all_goals first
    | exact g hr
    | exact zLI_up hl (fun _ q => g q) hr
    | exact zLJ_up hl (fun _ q => g q) hr
    | exact zLA_up hl (fun _ q => g q) hr
    | exact zLI_up hl (fun _ q => hK _ _ _ _ _ (zLw_s1 hl) q) hr
    | exact zCp_up (fun _ _ _ q => g q) hr
    | exact zI1_up (fun _ _ q => zGo_up2 (fun z => by rw [hlen]; exact z) (fun q => hK _ _ _ _ _ (zLw_s1 hl) q) q) hr
    | exact zA1_up (fun _ _ q => zGo_up2 (fun z => by rw [hlen]; exact z) (fun q => hK _ _ _ _ _ (zLw_s1 hl) q) q) hr
    | exact zJ1_up (fun _ _ q => zGo_up2 (fun z => by rw [hlen]; exact z) (fun q => hK _ _ _ _ _ (zLw_s2 hl) q) q) hr
    | exact zTo_up (fun _ q => g q) hr
    | exact zI2_up (fun _ _ _ q => zTo_up (fun _ q => zCnd_up g g q) q) hr
    | exact zI1_up (fun _ _ q => zTo_up (fun _ q => zCnd_up g g q) q) hr
    | exact zA1_up (fun _ _ q => g q) hr
    | exact zA1_up (fun _ _ q => zTo_up (fun _ q => g q) q) hr
    | exact zI1_up (fun _ _ q => zGo_up (fun q => zTo_up (fun _ q => g q) q) q) hr
    | exact zI2_up (fun _ _ _ q => g q) hr
    | exact zI2_up (fun _ _ _ q => zGo_up (fun q => g q) q) hr
    | exact zJ2_up (fun _ _ _ q => g q) hr
    | exact zJ2_up (fun _ _ _ q => zGo_up (fun q => g q) q) hr
    | exact zI1_up (fun _ _ q => zJ1_up (fun _ _ q => g q) q) hr
    | exact zI1_up (fun _ _ q => g q) hr
    | exact zJ1_up (fun _ _ q => g q) hr
    | (cases hr; done)
    | skip
  · refine zI1_up (fun x r q => ?_) hr
    split at q
    · rename_i hc
      rw [if_pos hc]
      exact zTo_up (fun _ q => g q) q
    · rename_i hc
      rw [if_neg hc]
      split at q
      · rename_i off ho
        try rw [ho]
        exact zTo_up (fun _ q => g q) q
      · cases q
  · revert hr
    split <;> intro hr
    · exact zGo_up (fun q => g q) hr
    · cases hr
  · revert hr
    split <;> intro hr
    · exact zGo_up (fun q => g q) hr
    · cases hr
  · refine zA1_up (fun a r q => zCp_up (fun ci k c q => ?_) q) hr
    revert q
    try dsimp only
    split <;> intro q
    · refine zGo_up (fun q => ?_) q
      revert q
      split <;> intro q
      · exact g q
      · exact g q
      · cases q
    · cases q
  · revert hr
    split <;> intro hr
    · refine zCp_up (fun ci k c q => ?_) hr
      revert q
      split <;> intro q
      · refine zGo_up (fun q => ?_) q
        revert q
        split <;> intro q
        · exact g q
        · exact zGo_up (fun q => g q) q
        · cases q
      · cases q
    · refine zCp_up (fun ci k c q => ?_) hr
      revert q
      split <;> intro q
      · refine zGo_up (fun q => ?_) q
        revert q
        split <;> intro q
        · exact zGo_up (fun q => g q) q
        · cases q
      · cases q
    · cases hr
  · refine zI1_up (fun x r q => ?_) hr
    refine zA1_up (fun a r q => ?_) q
    revert q
    try dsimp only
    split <;> intro q
    · exact zGo_up (fun q => g q) q
    · cases q
    · revert q
      split <;> intro q
      · exact zGo_up (fun q => g q) q
      · cases q
  · refine zI1_up (fun x r q => ?_) hr
    refine zA1_up (fun a r q => ?_) q
    revert q
    try dsimp only
    split <;> intro q
    · exact zGo_up (fun q => g q) q
    · cases q
  · refine zI2_up (fun x y r q => ?_) hr
    refine zA1_up (fun a r q => ?_) q
    revert q
    try dsimp only
    split <;> intro q
    · exact zGo_up (fun q => g q) q
    · cases q
  · refine zI2_up (fun x y r q => ?_) hr
    refine zA1_up (fun a r q => ?_) q
    revert q
    try dsimp only
    split <;> intro q
    · exact zGo_up (fun q => g q) q
    · cases q
  · refine zA1_up (fun a r q => ?_) hr
    revert q
    try dsimp only
    split <;> intro q
    · exact g q
    · cases q
    · revert q
      split <;> intro q
      · exact g q
      · cases q
  · refine zI1_up (fun x r q => ?_) hr
    revert q
    try dsimp only
    split <;> intro q
    · exact zGo_up2 (fun z => ⟨z.1, z.2.1, zLw_vs hl z.2.2.1, z.2.2.2⟩) (fun q => g q) q
    · exact zGo_up2 (fun z => ⟨z.1, z.2.1, zLw_vs hl z.2.2.1, z.2.2.2⟩) (fun q => g q) q
    · cases q
  · refine zCp_up (fun ci k c q => ?_) hr
    exact zGo_up2 (fun z => ⟨zLw_vs hl z.1, z.2⟩) (fun q => g q) q
  · revert hr
    split <;> intro hr
    · refine zGo_up (fun q => hC _ _ _ _ _ (fun v h2 q => zKeep_up hl (fun q => g q) q) q) hr
    · revert hr
      split <;> intro hr
      · revert hr
        split <;> intro hr
        · exact zGo_up (fun q => g q) hr
        · cases hr
      · cases hr
    · exact zI2_up (fun _ _ _ q => zGo_up (fun q => g q) q) hr
    · exact zI2_up (fun _ _ _ q => zGo_up (fun q => g q) q) hr
    · exact zJ2_up (fun _ _ _ q => zGo_up (fun q => g q) q) hr
    · cases hr
  · refine zCp_up (fun N k c q => ?_) hr
    revert q
    try dsimp only
    split <;> intro q
    · revert q
      split <;> intro q
      · exact zGo_up (fun q => hC _ _ _ _ _ (fun v h2 q => zKeep_up hl (fun q => g q) q) q) q
      · cases q
    · cases q
  · revert hr
    split <;> intro hr
    · revert hr
      split <;> intro hr
      · exact zGo_up (fun q => hC _ _ _ _ _ (fun v h2 q => zKeep_up hl (fun q => g q) q) q) hr
      · cases hr
    · revert hr
      split <;> intro hr
      · exact zGo_up (fun q => g q) hr
      · cases hr
    · cases hr
  all_goals exact hr
theorem zrun_up {xs : zX} : ∀ (n k : Nat) {d M pc : Nat} {L L' : List (Option Value)} {st : List Value} {h : zH} {R : Option Value × zH}, zLw L L' → zrun xs n d M (pc, L, st) h = some R → zrun xs (n + k) d M (pc, L', st) h = some R
  | 0, _, _, _, _, _, _, _, _, _, _, hr => by cases hr
  | n + 1, k, d, M, pc, L, L', st, h, R, hl, hr => by
    rw [Nat.add_right_comm]
    unfold zrun at hr ⊢
    dsimp only at hr ⊢
    split at hr
    · cases hr
    · rename_i i len hz
      try rw [hz]
      refine zdo_up hl (fun pc L L' st h1 hl q => zrun_up n k hl q) (fun N vs h1 k1 k2 hk q => ?_) hr
      cases d with
      | zero => cases q
      | succ d =>
        refine zGo_up (fun q => ?_) q
        split at q
        · rename_i v2 h2 hz2
          have e := zrun_up (xs := none) n k (zLw_rf _) hz2
          show (match zrun none (n + k) d N (zEnt (zMl N) vs) h1 with
            | some (v, h') => k2 v h'
            | none => none) = some R
          rw [show zrun none (n + k) d N (zEnt (zMl N) vs) h1 = some (v2, h2) from e]
          exact hk v2 h2 q
        · cases q
theorem zrun_more {xs : zX} (n k : Nat) {d M : Nat} {f : zFr} {h : zH} {R : Option Value × zH} (hr : zrun xs n d M f h = some R) : zrun xs (n + k) d M f h = some R := zrun_up n k (zLw_rf _) hr
theorem zEv_weak {xs : zX} {d M pc : Nat} {L L' : List (Option Value)} {st : List Value} {h h' : zH} {v : Option Value} (hl : zLw L L') (kk : zEv xs d M (pc, L, st) h v h') : zEv xs d M (pc, L', st) h v h' := by
  obtain ⟨n, hn⟩ := kk
  exact ⟨n, zrun_up n 0 hl hn⟩
theorem zEv_call {xs : zX} {d M N : Nat} {f : zFr} {h0 h h1 h' : zH} {L : List (Option Value)} {vs rest : List Value} {v v1 : Option Value} {pc : Nat} (k : Nat)
    (hb : ∀ n, zrun xs (n + k) (d + 1) M f h0 = (match zrun none n d N (zEnt (zMl N) vs) h with
      | some (v, h') => zKeep h h' L rest v (zrun xs n (d + 1) M (pc, L, v.toList ++ rest) h')
      | none => none)) (hc : zCall d N vs h v1 h1) (hv : zNr v1 = true) (hl : h1.1.length = h.1.length) (kk : zEv xs (d + 1) M (pc, L, v1.toList ++ rest) h1 v h') : zEv xs (d + 1) M f h0 v h' := by
  obtain ⟨n1, hn1⟩ := hc
  obtain ⟨n2, hn2⟩ := kk
  refine ⟨n1 + n2 + k, (hb _).trans ?_⟩
  have e1 := zrun_more n1 n2 hn1
  have e2 := zrun_more n2 n1 hn2
  rw [Nat.add_comm n2 n1] at e2
  rw [e1]
  show zKeep h h1 L rest v1 (zrun xs (n1 + n2) (d + 1) M (pc, L, v1.toList ++ rest) h1) = _
  unfold zKeep zGo
  rw [if_pos hv, if_pos hl, e2]
abbrev zIn (i : Int32) (n : Nat) : Prop := ¬ (i < 0 ∨ n ≤ i.toNatClampNeg)
def zRem (x y : Int32) : Int32 := x - x / y * y
def zShl (x y : Int32) : Int32 := x <<< (y &&& 31)
def zShr (x y : Int32) : Int32 := x >>> (y &&& 31)
def zUsh (x y : Int32) : Int32 := (x.toUInt32 >>> (y.toUInt32 &&& Int32.toUInt32 31)).toInt32
def zLrem (x y : Int64) : Int64 := x - x / y * y
def zLshl (x : Int64) (y : Int32) : Int64 := x <<< (y.toInt64 &&& 63)
def zLush (x : Int64) (y : Int32) : Int64 := (x.toUInt64 >>> (y.toInt64.toUInt64 &&& Int64.toUInt64 63)).toInt64
theorem zEv_tsk {xs : zX} {d M pc len : Nat} {L : List (Option Value)} {r : List Value} {h h' : zH} {v : Option Value} {df lo hi : Int} {offs : Array Int} {x : Int32} {off : Int} {t : Nat} (k : Int) (hz : zin M pc = some (.tableswitch df lo hi offs, len)) (hx : x = Int32.ofInt k) (h1 : ¬ ((Int32.ofInt k).toInt < lo ∨ hi < (Int32.ofInt k).toInt)) (h2 : offs[((Int32.ofInt k).toInt - lo).toNat]? = some off) (ht : (pc : Int) + off = .ofNat t) (kk : zEv xs d M (t, L, r) h v h') : zEv xs d M (pc, L, .int x :: r) h v h' := by
  subst hx
  obtain ⟨n, hn⟩ := kk
  refine ⟨n + 1, ?_⟩
  unfold zrun
  simp only [hz]
  unfold zdo
  simp only [zI1]
  rw [if_neg h1, h2]
  simp only [zTo]
  rw [ht]
  exact hn
theorem zEv_tsd {xs : zX} {d M pc len : Nat} {L : List (Option Value)} {r : List Value} {h h' : zH} {v : Option Value} {df lo hi : Int} {offs : Array Int} {x : Int32} {t : Nat} (hz : zin M pc = some (.tableswitch df lo hi offs, len)) (h1 : x.toInt < lo ∨ hi < x.toInt) (ht : (pc : Int) + df = .ofNat t) (kk : zEv xs d M (t, L, r) h v h') : zEv xs d M (pc, L, .int x :: r) h v h' := by
  obtain ⟨n, hn⟩ := kk
  refine ⟨n + 1, ?_⟩
  unfold zrun
  simp only [hz]
  unfold zdo
  simp only [zI1]
  rw [if_pos h1]
  simp only [zTo]
  rw [ht]
  exact hn
theorem zEv_ls {xs : zX} {d M pc len : Nat} {L : List (Option Value)} {r : List Value} {h h' : zH} {v : Option Value} {df : Int} {ps : Array (Int × Int)} {x : Int32} {off : Int} {t : Nat} (hz : zin M pc = some (.lookupswitch df ps, len)) (hp : (ps.toList.zip (ps.toList.drop 1)).all (fun (a, next) => a.1 < next.1) = true) (ho : Op.lookupswitch.offset ps.toList df x.toInt = off) (ht : (pc : Int) + off = .ofNat t) (kk : zEv xs d M (t, L, r) h v h') : zEv xs d M (pc, L, .int x :: r) h v h' := by
  obtain ⟨n, hn⟩ := kk
  refine ⟨n + 1, ?_⟩
  unfold zrun
  simp only [hz]
  unfold zdo
  simp only [zI1]
  unfold zGo
  rw [if_pos hp, ho]
  simp only [zTo]
  rw [ht]
  exact hn
theorem zNt {x : Int32} {k : Int} (h : ¬ x = Int32.ofInt k) (hk : (Int32.ofInt k).toInt = k) : ¬ x.toInt = k := fun q => h (Int32.toInt_inj.mp (q.trans hk.symm))
