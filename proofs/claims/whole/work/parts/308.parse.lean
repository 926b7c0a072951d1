/-! the text of days: what must come next, the acts -/
theorem zW_sub {lo hi c d : Nat} (hl : lo < 1000000) (hh : hi < 1000000) (hc : c < 1000000) (hd : d < 1000000) : zW lo hi (zN c - zN d) = zB (decide (d + lo ≤ c ∧ c ≤ d + hi)) := by
  unfold zW
  have e : (zN c - zN d).toInt = (c : Int) - d := by
    rw [Int32.toInt_sub, zN_toInt (by omega), zN_toInt (by omega)]
    apply Int.bmod_eq_of_le <;> omega
  have h : (zN lo ≤ zN c - zN d ∧ zN c - zN d ≤ zN hi) ↔ (d + lo ≤ c ∧ c ≤ d + hi) := by
    rw [Int32.le_iff_toInt_le, Int32.le_iff_toInt_le, e, zN_toInt (by omega), zN_toInt (by omega)]
    omega
  simp only [h]
def zDue (d c : Nat) : Nat := if d = 0 then (if 65 ≤ c ∧ c ≤ 72 then 1 else if c = 35 then 2 else if c = 46 then 0 else 100) else if d = 1 then (if c = 120 then 3 else if 48 ≤ c ∧ c ≤ 57 then 0 else if c = 95 then 0 else if c = 33 then 0 else 100) else if d = 2 then (if 48 ≤ c ∧ c ≤ 57 then 0 else 100) else (if 65 ≤ c ∧ c ≤ 72 then 0 else 100)
theorem zDue_lt (d c : Nat) : zDue d c < 4 ∨ zDue d c = 100 := by
  unfold zDue
  repeat' split
  all_goals decide
theorem z4 {a : Nat} (h : a < 4) : a = 0 ∨ a = 1 ∨ a = 2 ∨ a = 3 := by omega
theorem zdue {d c : Nat} (I : zI) (hd : d < 4) (hc : c < 200) : Pa_dueBehind (zN d) (zN c) I = some (zE (zDue d c)) := by
  have ei : ∀ k : Nat, k < 200 → ((zN c = zN k) ↔ c = k) := fun k hk => zN_inj (by omega) (by omega)
  unfold Pa_dueBehind
  rcases z4 hd with rfl | rfl | rfl | rfl
  · rw [if_pos (by decide)]
    unfold Pa_dueBehindStart
    rw [zbOne, zl_65, zW_sub (by decide) (by decide) (by omega) (by decide), Option.bind_some, zl_35, zl_46]
    simp only [ei 35 (by decide), ei 46 (by decide)]
    show _ = some (zE (if 65 ≤ c ∧ c ≤ 72 then 1 else if c = 35 then 2 else if c = 46 then 0 else 100))
    by_cases h : 65 ≤ c ∧ c ≤ 72
    · rw [decide_eq_true (show 65 + 0 ≤ c ∧ c ≤ 65 + 7 by omega), if_pos h]
      rfl
    · rw [decide_eq_false (show ¬ (65 + 0 ≤ c ∧ c ≤ 65 + 7) by omega), if_neg h, if_pos (show zB false = 0 from rfl)]
      by_cases h1 : c = 35
      · rw [if_pos h1, if_pos h1]
        rfl
      · rw [if_neg h1, if_neg h1]
        by_cases h2 : c = 46
        · rw [if_pos h2, if_pos h2]
          rfl
        · rw [if_neg h2, if_neg h2]
          rfl
  · rw [if_neg (by decide), if_pos (by decide)]
    unfold Pa_dueBehindDeed
    rw [zbBench, zl_48, zW_sub (by decide) (by decide) (by omega) (by decide), zl_120, zl_95, zl_33]
    simp only [ei 120 (by decide), ei 95 (by decide), ei 33 (by decide), Option.bind_some]
    show _ = some (zE (if c = 120 then 3 else if 48 ≤ c ∧ c ≤ 57 then 0 else if c = 95 then 0 else if c = 33 then 0 else 100))
    by_cases h0 : c = 120
    · rw [if_pos h0, if_pos h0]
      rfl
    · rw [if_neg h0, if_neg h0]
      by_cases h : 48 ≤ c ∧ c ≤ 57
      · rw [decide_eq_true (show 48 + 0 ≤ c ∧ c ≤ 48 + 9 by omega), if_pos h]
        rfl
      · rw [decide_eq_false (show ¬ (48 + 0 ≤ c ∧ c ≤ 48 + 9) by omega), if_neg h, if_pos (show zB false = 0 from rfl)]
        by_cases h1 : c = 95
        · rw [if_pos h1, if_pos h1]
          rfl
        · rw [if_neg h1, if_neg h1]
          by_cases h2 : c = 33
          · rw [if_pos h2, if_pos h2]
            rfl
          · rw [if_neg h2, if_neg h2]
            rfl
  · rw [if_neg (by decide), if_neg (by decide), if_pos (by decide), zbBench, zl_48, zW_sub (by decide) (by decide) (by omega) (by decide), Option.bind_some]
    show _ = some (zE (if 48 ≤ c ∧ c ≤ 57 then 0 else 100))
    by_cases h : 48 ≤ c ∧ c ≤ 57
    · rw [decide_eq_true (show 48 + 0 ≤ c ∧ c ≤ 48 + 9 by omega), if_pos h]
      rfl
    · rw [decide_eq_false (show ¬ (48 + 0 ≤ c ∧ c ≤ 48 + 9) by omega), if_neg h]
      rfl
  · rw [if_neg (by decide), if_neg (by decide), if_neg (by decide), if_pos (by decide), zbOne, zl_65, zW_sub (by decide) (by decide) (by omega) (by decide), Option.bind_some]
    show _ = some (zE (if 65 ≤ c ∧ c ≤ 72 then 0 else 100))
    by_cases h : 65 ≤ c ∧ c ≤ 72
    · rw [decide_eq_true (show 65 + 0 ≤ c ∧ c ≤ 65 + 7 by omega), if_pos h]
      rfl
    · rw [decide_eq_false (show ¬ (65 + 0 ≤ c ∧ c ≤ 65 + 7) by omega), if_neg h]
      rfl
/-- the fault (100: none) of j signs from the place i on, where d is due -/
def zFl (sg : Nat → Nat) : Nat → Nat → Nat → Nat
  | 0, i, d => if d = 0 then 100 else i
  | j + 1, i, d => if zDue d (sg i) = 100 then i else zFl sg j (i + 1) (zDue d (sg i))
/-- the pads -/
def PD (I : zI) (cnt : Nat) (sg : Nat → Nat) : Prop := cnt ≤ 60 ∧ I 35 1 = zN cnt ∧ I 73 12 = zN cnt ∧ ∀ i, i < cnt → I 37 i = zN (sg i) ∧ I 82 i = zN (sg i) ∧ sg i < 200
def PDm (I : zI) (cnt : Nat) (sg : Nat → Nat) : Prop := cnt ≤ 60 ∧ I 73 12 = zN cnt ∧ ∀ i, i < cnt → I 82 i = zN (sg i) ∧ sg i < 200
theorem PD.m {I : zI} {cnt : Nat} {sg : Nat → Nat} (h : PD I cnt sg) : PDm I cnt sg := ⟨h.1, h.2.2.1, fun i hi => (h.2.2.2 i hi).2⟩
theorem zcfl {I : zI} {cnt : Nat} {sg : Nat → Nat} (hp : PD I cnt sg) : ∀ (j i d n : Nat), i + j = cnt → j < n → d < 4 → Pa_firstFault_L4 n (zN d) (zN i) I = some (zE (zFl sg j i d)) := by
  obtain ⟨h60, h35, h12, hs⟩ := hp
  intro j
  induction j with
  | zero =>
    intro i d n hk hn hd
    obtain ⟨n, rfl⟩ : ∃ e, n = e + 1 := ⟨n - 1, by omega⟩
    rw [Pa_firstFault_L4, h35, if_pos ((zN_le (by omega) (by omega)).mpr (by omega))]
    unfold zFl
    by_cases q : d = 0
    · rw [if_pos q, q]
      rfl
    · rw [if_neg q, if_neg (by rw [zl_0, zN_inj (by omega) (by decide)]; exact q), zE_lt (by omega), show cnt = i by omega]
  | succ j ih =>
    intro i d n hk hn hd
    obtain ⟨n, rfl⟩ : ∃ e, n = e + 1 := ⟨n - 1, by omega⟩
    obtain ⟨s1, s2, s3⟩ := hs i (by omega)
    rw [Pa_firstFault_L4, h35, if_neg (by rw [zN_le (by omega) (by omega)]; omega), zat_36 I (by omega), Option.bind_some, s1, zdue I hd s3, Option.bind_some, zl_6, zl_1, zN_add]
    unfold zFl
    rcases zDue_lt d (sg i) with h | h
    · rw [if_neg (by rw [zE_none]; omega), if_neg (by omega), zE_lt (by omega)]
      exact ih (i + 1) _ n (by omega) (by omega) h
    · rw [if_pos ((zE_none _).mpr (by omega)), if_pos h, zE_lt (by omega)]
theorem zcfault {I : zI} {cnt n : Nat} {sg : Nat → Nat} (hp : PD I cnt sg) (hn : 60 < n) : Pa_firstFault n I = some (zE (zFl sg cnt 0 0)) := zcfl hp cnt 0 0 n (by omega) (by have := hp.1; omega) (by decide)
def zAct (d c : Nat) : Nat := if c = 33 then 3 else if c = 46 then 5 else if c = 95 then 1 else if d = 2 then 4 else if d = 3 then 2 else 0
def zTgt (c : Nat) : Nat := if 65 ≤ c ∧ c ≤ 72 then c - 65 else c - 48
def zWho (d one c : Nat) : Nat := if d = 0 then (if 65 ≤ c ∧ c ≤ 72 then c - 65 else 0) else one
theorem zcact {d c : Nat} (I : zI) (hd : d < 4) (hc : c < 200) : Pa_actEndedBy (zN d) (zN c) I = some (zN (zAct d c)) := by
  have ei : ∀ k : Nat, k < 200 → ((zN c = zN k) ↔ c = k) := fun k hk => zN_inj (by omega) (by omega)
  have ed : ∀ k : Nat, k < 200 → ((zN d = zN k) ↔ d = k) := fun k hk => zN_inj (by omega) (by omega)
  unfold Pa_actEndedBy zAct
  simp only [zl_33, zl_46, zl_95, zl_2, zl_3, ei 33 (by decide), ei 46 (by decide), ei 95 (by decide), ed 2 (by decide), ed 3 (by decide)]
  repeat' split
  all_goals rfl
theorem zctgt {c : Nat} (I : zI) (hc : c < 200) : ∃ t, Pa_targetOf (zN c) I = some t ∧ (48 ≤ c → t = zN (zTgt c)) := by
  unfold Pa_targetOf zTgt
  rw [zbOne, zl_65, zl_48, zW_sub (by decide) (by decide) (by omega) (by decide), Option.bind_some]
  by_cases h : 65 ≤ c ∧ c ≤ 72
  · rw [decide_eq_true (show 65 + 0 ≤ c ∧ c ≤ 65 + 7 by omega), if_neg (by decide)]
    exact ⟨_, rfl, fun _ => by rw [if_pos h, zN_sub h.1]⟩
  · rw [decide_eq_false (show ¬ (65 + 0 ≤ c ∧ c ≤ 65 + 7) by omega), if_pos (by decide)]
    exact ⟨_, rfl, fun h1 => by rw [if_neg h, zN_sub h1]⟩
theorem zAct_t {d c : Nat} (h : zDue d c = 0) (ha : zAct d c = 0 ∨ zAct d c = 2 ∨ zAct d c = 4) : 48 ≤ c := by
  unfold zDue at h
  unfold zAct at ha
  apply Classical.byContradiction
  intro hc
  split at h
  · split at h
    · omega
    · split at h
      · omega
      · split at h
        · rename_i z
          rw [z] at ha
          simp at ha
        · omega
  · split at h
    · split at h
      · omega
      · split at h
        · omega
        · split at h
          · omega
          · split at h
            · rename_i z
              rw [z] at ha
              simp at ha
            · omega
    · split at h
      · split at h
        · omega
        · omega
      · split at h <;> omega
theorem zAct_ok {d c k : Nat} (hd : d < 4) (h : zDue d c = 0) (hk : k < 8) : zOkA (zAct d c, k, zTgt c) := by
  refine ⟨?_, hk, ?_⟩
  · show zAct d c < 6
    unfold zAct
    repeat' split
    all_goals decide
  · show zTok (zAct d c) (zTgt c)
    unfold zDue at h
    unfold zTok zAct zTgt
    rcases z4 hd with rfl | rfl | rfl | rfl
    · simp at h
      split at h
      · omega
      · split at h
        · omega
        · split at h
          · rename_i z
            subst z
            simp
          · omega
    · simp at h
      split at h
      · omega
      · split at h
        · refine ⟨fun _ => ?_, fun z => ?_, fun z => ?_⟩
          · split <;> omega
          · repeat' split at z
            all_goals omega
          · repeat' split at z
            all_goals omega
        · split at h
          · rename_i z
            subst z
            simp
          · split at h
            · rename_i z
              subst z
              simp
            · omega
    · simp at h
      refine ⟨fun _ => ?_, fun z => ?_, fun _ => ?_⟩
      · split <;> omega
      · repeat' split at z
        all_goals omega
      · split <;> omega
    · simp at h
      refine ⟨fun z => ?_, fun _ => ?_, fun z => ?_⟩
      · repeat' split at z
        all_goals omega
      · split <;> omega
      · repeat' split at z
        all_goals omega
/-- the acts of j signs from the place i on -/
def zSc (sg : Nat → Nat) : Nat → Nat → Nat → Nat → List (Nat × Nat × Nat)
  | 0, _, _, _ => []
  | j + 1, i, d, one => if zDue d (sg i) = 0 then (zAct d (sg i), zWho d one (sg i), zTgt (sg i)) :: zSc sg j (i + 1) 0 (zWho d one (sg i)) else zSc sg j (i + 1) (zDue d (sg i)) (zWho d one (sg i))
theorem zSc_len (sg : Nat → Nat) : ∀ (j i d one : Nat), (zSc sg j i d one).length ≤ j := by
  intro j
  induction j with
  | zero => exact fun _ _ _ => Nat.le_refl 0
  | succ j ih =>
    intro i d one
    unfold zSc
    split
    · have := ih (i + 1) 0 (zWho d one (sg i))
      rw [List.length_cons]
      omega
    · have := ih (i + 1) (zDue d (sg i)) (zWho d one (sg i))
      omega
theorem zWho_lt {d one c : Nat} (h : one < 8) : zWho d one c < 8 := by
  unfold zWho
  repeat' split
  all_goals omega
theorem zSc_ok (sg : Nat → Nat) : ∀ (j i d one : Nat), d < 4 → one < 8 → zFl sg j i d = 100 → i + j ≤ 60 → ∀ x ∈ zSc sg j i d one, zOkA x := by
  intro j
  induction j with
  | zero =>
    intro i d one _ _ _ _ x hx
    cases hx
  | succ j ih =>
    intro i d one hd h1 hf hi x hx
    unfold zSc at hx
    unfold zFl at hf
    have hw := zWho_lt (d := d) (c := sg i) h1
    split at hf
    · omega
    · rename_i hne
      split at hx
      · rename_i h0
        rw [h0] at hf
        rcases List.mem_cons.mp hx with rfl | hx
        · exact zAct_ok hd h0 hw
        · exact ih (i + 1) 0 _ (by decide) hw hf (by omega) x hx
      · have := zDue_lt d (sg i)
        exact ih (i + 1) _ _ (by omega) hw hf (by omega) x hx
