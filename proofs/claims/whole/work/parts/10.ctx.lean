def zZW : List Jvm.Cond := lw_tbl.filter goodWord
theorem zZW_of {w : Jvm.Cond} (h : w ∈ lw_tbl) (g : goodWord w = true) : w ∈ zZW := List.mem_filter.mpr ⟨h, g⟩
def zIsN : Jvm.Cond → Bool
  | .fieldLinkNest _ _ _ _ _ _ => true
  | .methodLinkNest _ _ _ _ => true
  | _ => false
def zNK (U : State) : Prop := ∀ w ∈ lw_tbl, zIsN w = true → va_Nw w U
theorem zNK.warm {s U : State} (hW : s.WarmedH U.vm) (h : zNK s) : zNK U := by
  intro w hw hn
  have q := h w hw hn
  cases w <;> first | (cases hn; done) | exact va_Nw.warmF hW q | exact va_Nw.warmM hW q
theorem zNK.same {s U : State} (e : s.vm = U.vm) (h : zNK s) : zNK U := by
  intro w hw hn
  have q := h w hw hn
  cases w <;> first | (cases hn; done) | exact va_Nw.same rfl e q
def zWs (M : Nat) : List Jvm.Cond := .code (zYn M) (zBy M) (zMl M) (zRt M) :: zZW
abbrev zTys (cI cZ : ClassId) : List (ClassId × FieldType) := [(cI, .int), (cZ, .boolean)]
def zPre (D : va_G) (cI cZ : ClassId) (b : Nat) (vs : List Value) (σ : List Nat) (h : zH) (sz : Nat) : Array Value → State → Prop :=
  va_Pc (vs.map (zVal b σ)) (fun U => U.heap.size = sz ∧ va_P D zcls (zWl cI cZ b σ h) U.heap ∧ va_K D zcls (zTys cI cZ) U ∧ va_D (fun _ => True) (zWl cI cZ b σ h) ∧ zNK U)
def zQc (D : va_G) (cI cZ : ClassId) (b : Nat) (σ : List Nat) (h' : zH) (v : Option Value) (A : Nat → Prop) : Array Value → State → Outcome → State → Prop :=
  fun _ st o t => (∃ σ' : List Nat, o = .returned v ∧ σ <+: σ' ∧ σ'.length = h'.1.length ∧ va_P D zcls (zWl cI cZ b σ' h') t.heap ∧ va_D A (zWl cI cZ b σ' h')) ∧ va_F A st t
theorem zPre_blind {D : va_G} {cI cZ : ClassId} {b : Nat} {vs : List Value} {σ : List Nat} {h : zH} {sz : Nat} : FrameBlind (zPre D cI cZ b vs σ h sz) := by
  intro a U g mk q
  obtain ⟨q0, q1, qP, qK, qD, qN⟩ := q
  exact ⟨q0, q1, qP, va_K.moved (u := U) (U := U.calling g mk a) (Vm.Alike.refl U.vm) qK, qD, zNK.same (s := U) (U := U.calling g mk a) rfl qN⟩
def zLc (b : Nat) (σ : List Nat) (nL : Nat) (L : List (Option Value)) (ls : Array Slot) : Prop := ls.size = nL ∧ L.length = nL ∧ lv_wf ls ∧ ∀ (i : Nat) (v : Value), L[i]? = some (some v) → ls[i]? = some (.val (zVal b σ v))
def zPs (b : Nat) (σ : List Nat) (nL : Nat) (L : List (Option Value)) : List (Nat × Value) := (List.range nL).filterMap fun i => (L[i]?).join.map fun v => (i, zVal b σ v)
theorem zPs_mem {b : Nat} {σ : List Nat} {nL : Nat} {L : List (Option Value)} {i : Nat} {v : Value} (hl : L.length = nL) (h : L[i]? = some (some v)) : (i, zVal b σ v) ∈ zPs b σ nL L := by
  unfold zPs
  refine List.mem_filterMap.mpr ⟨i, List.mem_range.mpr ?_, ?_⟩
  · rw [← hl]
    exact (List.getElem?_eq_some_iff.mp h).1
  · rw [h]
    rfl
theorem zPs_has {b : Nat} {σ : List Nat} {nL : Nat} {L : List (Option Value)} {ls : Array Slot} (h : zLc b σ nL L ls) : lv_has ls nL (zPs b σ nL L) := by
  obtain ⟨h1, h2, h3, h4⟩ := h
  refine ⟨h1, h3, fun q hq => ?_⟩
  unfold zPs at hq
  obtain ⟨i, -, hi⟩ := List.mem_filterMap.mp hq
  cases hv : (L[i]?).join with
  | none => rw [hv] at hi; cases hi
  | some v =>
    rw [hv] at hi
    cases hi
    exact h4 i v (Option.join_eq_some_iff.mp hv)
theorem zClr_len (i : Nat) (L : List (Option Value)) : (zClr i L).length = L.length := by
  unfold zClr
  split
  · rfl
  · split
    · split
      · simp
      · rfl
    · rfl
theorem zClr_get {i j : Nat} {L : List (Option Value)} {w : Value} (h : (zClr i L)[j]? = some (some w)) : L[j]? = some (some w) ∧ ¬ (j + 1 = i ∧ w.category = 2) := by
  unfold zClr at h
  split at h
  · exact ⟨h, by omega⟩
  · rename_i k
    split at h
    · rename_i v hv
      split at h
      · by_cases hj : k = j
        · subst hj
          rw [List.getElem?_set] at h
          split at h
          · split at h <;> cases h
          · rename_i hne
            exact absurd rfl hne
        · rw [List.getElem?_set_ne hj] at h
          exact ⟨h, fun q => hj (by omega)⟩
      · rename_i hc
        refine ⟨h, fun q => hc ?_⟩
        obtain ⟨q1, q2⟩ := q
        have hjk : j = k := by omega
        subst hjk
        rw [h] at hv
        cases hv
        exact q2
    · rename_i hv
      refine ⟨h, fun q => ?_⟩
      obtain ⟨q1, q2⟩ := q
      have hjk : j = k := by omega
      subst hjk
      exact hv w h
theorem zLc_s1 {b : Nat} {σ : List Nat} {nL i : Nat} {L : List (Option Value)} {ls ls' : Array Slot} {v : Value} (h : zLc b σ nL L ls) (hi : i < L.length) (h' : lv_has ls' nL ((i, zVal b σ v) :: (zPs b σ nL L).filter (fun q => !(q.1 == i) && !(q.1 + 1 == i && q.2.category == 2)))) : zLc b σ nL (zS1 L i v) ls' := by
  refine ⟨h'.1, ?_, h'.2.1, fun j w hw => ?_⟩
  · unfold zS1
    rw [List.length_set, zClr_len, h.2.1]
  · unfold zS1 at hw
    by_cases hj : i = j
    · subst hj
      rw [List.getElem?_set_self (by rw [zClr_len]; exact hi)] at hw
      cases hw
      exact h'.2.2 _ List.mem_cons_self
    · rw [List.getElem?_set_ne hj] at hw
      obtain ⟨h1, h2⟩ := zClr_get hw
      refine h'.2.2 (j, zVal b σ w) (List.mem_cons_of_mem _ (List.mem_filter.mpr ⟨zPs_mem h.2.1 h1, ?_⟩))
      simp only [zVal_cat, Bool.and_eq_true, Bool.not_eq_true', beq_eq_false_iff_ne, ne_eq, Bool.and_eq_false_iff]
      refine ⟨fun q => hj q.symm, ?_⟩
      by_cases q : j + 1 = i
      · exact Or.inr fun z => h2 ⟨q, z⟩
      · exact Or.inl q
theorem zLc_s2 {b : Nat} {σ : List Nat} {nL i : Nat} {L : List (Option Value)} {ls ls' : Array Slot} {v : Value} (h : zLc b σ nL L ls) (hi : i + 1 < L.length) (h' : lv_has ls' nL ((i, zVal b σ v) :: (zPs b σ nL L).filter (fun q => !(q.1 == i) && (!(q.1 == i + 1) && !(q.1 + 1 == i && q.2.category == 2))))) : zLc b σ nL (zS2 L i v) ls' := by
  refine ⟨h'.1, ?_, h'.2.1, fun j w hw => ?_⟩
  · unfold zS2
    rw [List.length_set, List.length_set, zClr_len, h.2.1]
  · unfold zS2 at hw
    by_cases hk : i + 1 = j
    · subst hk
      rw [List.getElem?_set_self (by rw [List.length_set, zClr_len]; exact hi)] at hw
      cases hw
    · rw [List.getElem?_set_ne hk] at hw
      by_cases hj : i = j
      · subst hj
        rw [List.getElem?_set_self (by rw [zClr_len]; omega)] at hw
        cases hw
        exact h'.2.2 _ List.mem_cons_self
      · rw [List.getElem?_set_ne hj] at hw
        obtain ⟨h1, h2⟩ := zClr_get hw
        refine h'.2.2 (j, zVal b σ w) (List.mem_cons_of_mem _ (List.mem_filter.mpr ⟨zPs_mem h.2.1 h1, ?_⟩))
        simp only [zVal_cat, Bool.and_eq_true, Bool.not_eq_true', beq_eq_false_iff_ne, ne_eq, Bool.and_eq_false_iff]
        refine ⟨fun q => hj q.symm, fun q => hk q.symm, ?_⟩
        by_cases q : j + 1 = i
        · exact Or.inr fun z => h2 ⟨q, z⟩
        · exact Or.inl q
theorem zLc_pre {b : Nat} {σ σ' : List Nat} {nL : Nat} {L : List (Option Value)} {st : List Value} {ls : Array Slot} (h : zLc b σ nL L ls) (hp : σ <+: σ') (hv : zVs σ.length L st = true) : zLc b σ' nL L ls ∧ st.map (zVal b σ') = st.map (zVal b σ) := by
  unfold zVs at hv
  rw [Bool.and_eq_true] at hv
  refine ⟨⟨h.1, h.2.1, h.2.2.1, fun i v hi => ?_⟩, List.map_congr_left fun v hv2 => ?_⟩
  · rw [h.2.2.2 i v hi]
    have h1 := List.all_eq_true.mp hv.1 (some v) (List.mem_of_getElem? hi)
    rw [zVal_pre hp h1]
  · exact zVal_pre hp (List.all_eq_true.mp hv.2 v hv2)
theorem zArg_at {b : Nat} {σ : List Nat} : ∀ (vs : List Value), (lg_sl (vs.map (zVal b σ))).length = (zArgs vs).length ∧ ∀ (i : Nat) (v : Value), (zArgs vs)[i]? = some (some v) → (lg_sl (vs.map (zVal b σ)))[i]? = some (.val (zVal b σ v))
  | [] => ⟨rfl, fun i v h => by simp [zArgs] at h⟩
  | a :: t => by
    obtain ⟨h1, h2⟩ := zArg_at (b := b) (σ := σ) t
    have e1 : zArgs (a :: t) = (if a.category = 2 then [some a, none] else [some a]) ++ zArgs t := by simp [zArgs]
    have e2 : lg_sl ((a :: t).map (zVal b σ)) = (if a.category = 2 then [.val (zVal b σ a), .second] else [.val (zVal b σ a)]) ++ lg_sl (t.map (zVal b σ)) := by
      simp only [lg_sl, List.map_cons, List.flatMap_cons, zVal_cat]
    rw [e1, e2]
    by_cases hc : a.category = 2
    · rw [if_pos hc, if_pos hc]
      refine ⟨by simp [h1], fun i v hv => ?_⟩
      match i, hv with
      | 0, hv => cases hv; rfl
      | 1, hv => cases hv
      | i + 2, hv => exact h2 i v hv
    · rw [if_neg hc, if_neg hc]
      refine ⟨by simp [h1], fun i v hv => ?_⟩
      match i, hv with
      | 0, hv => cases hv; rfl
      | i + 1, hv => exact h2 i v hv
theorem zLc_entry {b : Nat} {σ : List Nat} {vs : List Value} {n : Nat} (h : (zArgs vs).length ≤ n) : zLc b σ n (zEnt n vs).2.1 ((lg_sl (vs.map (zVal b σ)) ++ List.replicate (n - (lg_sl (vs.map (zVal b σ))).length) Slot.unset).toArray) := by
  obtain ⟨h1, h2⟩ := zArg_at (b := b) (σ := σ) vs
  have h3 := lv_entry (vs.map (zVal b σ)) (n := n) (by rw [h1]; exact h)
  refine ⟨h3.1, ?_, h3.2.1, fun i v hv => ?_⟩
  · simp [zEnt]
    omega
  · have hv : (zArgs vs ++ List.replicate (n - (zArgs vs).length) none)[i]? = some (some v) := hv
    by_cases hi : i < (zArgs vs).length
    · rw [List.getElem?_append_left hi] at hv
      rw [List.getElem?_toArray, List.getElem?_append_left (by rw [h1]; exact hi)]
      exact h2 i v hv
    · rw [List.getElem?_append_right (by omega)] at hv
      have := List.mem_replicate.mp (List.mem_of_getElem? hv)
      cases this.2
