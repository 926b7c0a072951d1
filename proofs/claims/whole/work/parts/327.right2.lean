/-! sets and their sizes -/
def zIb (w i : Nat) : Nat := if w.testBit i = true then 1 else 0
theorem zPop_sum (w : Nat) : zPop w = zSum (zIb w) 10 := by
  unfold zPop
  generalize 10 = n
  induction n with
  | zero => rfl
  | succ n ih =>
    rw [List.range_succ, List.countP_append, ih, List.countP_singleton]
    rfl
theorem zSum_le {f g : Nat → Nat} : ∀ (n : Nat), (∀ i, i < n → f i ≤ g i) → zSum f n ≤ zSum g n := by
  intro n
  induction n with
  | zero => exact fun _ => Nat.le_refl 0
  | succ n ih =>
    intro h
    have h1 := ih (fun i hi => h i (by omega))
    have h2 := h n (by omega)
    unfold zSum
    omega
theorem zPop_or (d m : Nat) : zPop (1 <<< d ||| m) ≤ zPop m + (if m.testBit d = true then 0 else 1) := by
  by_cases h : m.testBit d = true
  · have e : 1 <<< d ||| m = m := Nat.eq_of_testBit_eq (fun i => by
      rw [Nat.testBit_or, z1_bit]
      by_cases q : d = i
      · rw [← q, h]
        simp
      · rw [decide_eq_false q, Bool.false_or])
    rw [e, if_pos h]
    exact Nat.le_refl _
  · rw [if_neg h, zPop_sum, zPop_sum]
    have h1 : zSum (zIb (1 <<< d ||| m)) 10 ≤ zSum (fun i => zIb m i + if i = d then 1 else 0) 10 := by
      refine zSum_le 10 (fun i _ => ?_)
      unfold zIb
      rw [Nat.testBit_or, z1_bit]
      by_cases q : d = i
      · rw [decide_eq_true q, if_pos (by simp), if_pos q.symm]
        omega
      · rw [decide_eq_false q, Bool.false_or]
        exact Nat.le_add_right _ _
    rw [zSum_add, zSum_one] at h1
    split at h1 <;> omega
theorem zPop_0 : zPop 0 = 0 := by decide
/-- the set of a list -/
def zOr (l : List Nat) : Nat := l.foldr (fun d m => 1 <<< d ||| m) 0
theorem zOr_bit (l : List Nat) (i : Nat) : ((zOr l).testBit i = true) ↔ i ∈ l := by
  induction l with
  | nil =>
    show ((0 : Nat).testBit i = true) ↔ _
    rw [Nat.zero_testBit]
    simp
  | cons d l ih =>
    show ((1 <<< d ||| zOr l).testBit i = true) ↔ _
    rw [Nat.testBit_or, z1_bit, Bool.or_eq_true, ih, decide_eq_true_eq, List.mem_cons]
    constructor
    · rintro (h | h)
      · exact Or.inl h.symm
      · exact Or.inr h
    · rintro (h | h)
      · exact Or.inl h.symm
      · exact Or.inr h
theorem zOr_pop (l : List Nat) : zPop (zOr l) ≤ l.length := by
  induction l with
  | nil => exact Nat.le_of_eq zPop_0
  | cons d l ih =>
    have := zPop_or d (zOr l)
    show zPop (1 <<< d ||| zOr l) ≤ l.length + 1
    split at this <;> omega
theorem zOr_nodup (l : List Nat) : zPop (zOr l) = l.length → l.Nodup := by
  induction l with
  | nil => exact fun _ => List.nodup_nil
  | cons d l ih =>
    intro h
    have h1 := zPop_or d (zOr l)
    have h2 := zOr_pop l
    have h3 : zPop (1 <<< d ||| zOr l) = l.length + 1 := h
    by_cases q : (zOr l).testBit d = true
    · rw [if_pos q] at h1
      omega
    · rw [if_neg q] at h1
      rw [List.nodup_cons]
      exact ⟨fun z => q ((zOr_bit l d).mpr z), ih (by omega)⟩
theorem zPx_mem : ∀ (n : Nat) (pre suf : List Nat), suf.length = n → (pre ++ suf).Nodup → (∀ d ∈ suf, d < 7) → pre ++ suf ∈ zPx n pre := by
  intro n
  induction n with
  | zero =>
    intro pre suf h1 h2 h3
    have : suf = [] := List.eq_nil_of_length_eq_zero h1
    subst this
    rw [List.append_nil]
    exact List.mem_singleton.mpr rfl
  | succ n ih =>
    intro pre suf h1 h2 h3
    cases suf with
    | nil => cases h1
    | cons d t =>
      unfold zPx
      rw [List.mem_flatMap]
      refine ⟨d, ?_, ?_⟩
      · rw [List.mem_filter, List.mem_range]
        refine ⟨h3 d List.mem_cons_self, ?_⟩
        have hd : d ∉ pre := by
          intro hd
          rw [List.nodup_append] at h2
          exact h2.2.2 d hd d List.mem_cons_self rfl
        simp [hd]
      · have := ih (pre ++ [d]) t (by rw [List.length_cons] at h1; omega) (by rw [List.append_assoc]; exact h2) (fun e he => h3 e (List.mem_cons_of_mem _ he))
        rw [List.append_assoc] at this
        exact this
/-! the digits of a row -/
def zDg (r i : Nat) : Nat := r / 10 ^ (6 - i) % 10
def zMk (f : Nat → Nat) : Nat → Nat
  | 0 => 0
  | c + 1 => zMk f c ||| 1 <<< f (6 - c)
theorem zMk_lt {f : Nat → Nat} (hf : ∀ i, f i < 10) : ∀ c, zMk f c < 1024 := by
  intro c
  induction c with
  | zero => exact (by decide : (0 : Nat) < 1024)
  | succ c ih => exact Nat.or_lt_two_pow (n := 10) ih (z1_lt (hf _))
theorem zDg_lt (r i : Nat) : zDg r i < 10 := Nat.mod_lt _ (by decide)
theorem zN_p (c : Nat) (h : c < 1000) : zN (c + 1) - 1 = zN c := by
  rw [zl_1, zN_sub (by omega)]
  congr 1
theorem zcrdL {r : Nat} (hr : r < 2147483648) : ∀ (j c n : Nat) (I : zI), c + j = 7 → j < n → (∀ i, 7 - c ≤ i → i < 7 → I 64 i = zN (zDg r i)) → ∃ I', Od_read_L14 n (zN (r / 10 ^ c)) (zN (zMk (zDg r) c)) (zN j - 1) I = some (zN (r / 10 ^ 7), zN (zMk (zDg r) 7), I') ∧ (∀ b, b ≠ 64 → I' b = I b) ∧ ∀ i, i < 7 → I' 64 i = zN (zDg r i) := by
  intro j
  induction j with
  | zero =>
    intro c n I hc hn h1
    obtain ⟨n, rfl⟩ : ∃ e, n = e + 1 := ⟨n - 1, by omega⟩
    have : c = 7 := by omega
    subst this
    rw [Od_read_L14, if_pos (by decide)]
    exact ⟨I, rfl, fun _ _ => rfl, fun i hi => h1 i (by omega) hi⟩
  | succ j ih =>
    intro c n I hc hn h1
    obtain ⟨n, rfl⟩ : ∃ e, n = e + 1 := ⟨n - 1, by omega⟩
    have hd : r / 10 ^ c % 10 = zDg r j := by
      unfold zDg
      rw [show 6 - j = c by omega]
    have hle : r / 10 ^ c ≤ r := Nat.div_le_self _ _
    have hlt := zDg_lt r j
    have ej : zN j + -1 = zN j - 1 := Int32.add_neg_eq_sub
    rw [Od_read_L14, zN_p j (by omega), if_neg (by rw [zl_0, zN_lt (by omega) (by decide)]; omega), zl_10, zN_rem (by omega) (by decide), hd, zput_63 _ I (by omega), Option.bind_some, zN_div (by omega) (by decide), Nat.div_div_eq_div_mul, ← Nat.pow_succ, ej, zl_1, zN_shl 1 (by omega), zN_or]
    have em : zMk (zDg r) c ||| 1 <<< zDg r j = zMk (zDg r) (c + 1) := by
      conv => rhs; unfold zMk
      rw [show 6 - c = j by omega]
    rw [em]
    obtain ⟨I', e1, e2, e3⟩ := ih (c + 1) n (zUp I 64 j (zN (zDg r j))) (by omega) (by omega) (fun i h2 h3 => by
      rw [zUp_at]
      by_cases q : i = j
      · rw [if_pos q, q]
      · rw [if_neg q]
        exact h1 i (by omega) h3)
    rw [zl_1] at e1
    exact ⟨I', e1, fun b b1 => by rw [e2 b b1, zUp_ne b1], e3⟩
theorem zmrdL {r : Nat} (hr : r < 2147483648) : ∀ (j c n : Nat) (I : zI), c + j = 7 → j < n → (∀ i, 7 - c ≤ i → i < 7 → I 90 i = zN (zDg r i)) → ∃ I', Mo_readSeven_L8 n (zN (r / 10 ^ c)) (zN (zMk (zDg r) c)) (zN j - 1) I = some (zN (r / 10 ^ 7), zN (zMk (zDg r) 7), I') ∧ (∀ b, b ≠ 90 → I' b = I b) ∧ ∀ i, i < 7 → I' 90 i = zN (zDg r i) := by
  intro j
  induction j with
  | zero =>
    intro c n I hc hn h1
    obtain ⟨n, rfl⟩ : ∃ e, n = e + 1 := ⟨n - 1, by omega⟩
    have : c = 7 := by omega
    subst this
    rw [Mo_readSeven_L8, if_pos (by decide)]
    exact ⟨I, rfl, fun _ _ => rfl, fun i hi => h1 i (by omega) hi⟩
  | succ j ih =>
    intro c n I hc hn h1
    obtain ⟨n, rfl⟩ : ∃ e, n = e + 1 := ⟨n - 1, by omega⟩
    have hd : r / 10 ^ c % 10 = zDg r j := by
      unfold zDg
      rw [show 6 - j = c by omega]
    have hle : r / 10 ^ c ≤ r := Nat.div_le_self _ _
    have hlt := zDg_lt r j
    have ej : zN j + -1 = zN j - 1 := Int32.add_neg_eq_sub
    have i7 := (zN_in (show j < 2147483648 by omega) (n := 7)).mpr (by omega)
    rw [Mo_readSeven_L8, zN_p j (by omega), if_neg (by rw [zl_0, zN_lt (by omega) (by decide)]; omega), if_pos i7, if_pos i7, zN_tn (by omega), zl_10, zN_rem (by omega) (by decide), hd, zUp_eq, zN_div (by omega) (by decide), Nat.div_div_eq_div_mul, ← Nat.pow_succ, ej, zl_1, zN_shl 1 (by omega), zN_or]
    have em : zMk (zDg r) c ||| 1 <<< zDg r j = zMk (zDg r) (c + 1) := by
      conv => rhs; unfold zMk
      rw [show 6 - c = j by omega]
    rw [em]
    obtain ⟨I', e1, e2, e3⟩ := ih (c + 1) n (zUp I 90 j (zN (zDg r j))) (by omega) (by omega) (fun i h2 h3 => by
      rw [zUp_at]
      by_cases q : i = j
      · rw [if_pos q, q]
      · rw [if_neg q]
        exact h1 i (by omega) h3)
    rw [zl_1] at e1
    exact ⟨I', e1, fun b b1 => by rw [e2 b b1, zUp_ne b1], e3⟩
/-- a good row is one that was tried -/
theorem zMk_7 (f : Nat → Nat) : zMk f 7 = zOr (zTb f) := by
  apply Nat.eq_of_testBit_eq
  intro i
  have h : ∀ a b : Bool, (a = true ↔ b = true) → a = b := by
    intro a b h
    cases a <;> cases b <;> simp_all
  apply h
  rw [zOr_bit]
  unfold zTb
  simp only [zMk, Nat.testBit_or, z1_bit, Bool.or_eq_true, decide_eq_true_eq, Nat.zero_testBit, List.mem_cons, List.not_mem_nil]
  constructor
  · intro h
    simp at h
    omega
  · intro h
    simp at h ⊢
    omega
theorem zGood {f : Nat → Nat} (h : zMk f 7 = 127) : zPq (zTb f) = true ∧ ∀ i, i < 7 → f i < 7 := by
  rw [zMk_7] at h
  have hb : ∀ d, d ∈ zTb f → d < 7 := by
    intro d hd
    have := (zOr_bit (zTb f) d).mpr hd
    rw [h, show (127 : Nat) = 2 ^ 7 - 1 from rfl, Nat.testBit_two_pow_sub_one, decide_eq_true_eq] at this
    exact this
  have hn : (zTb f).Nodup := zOr_nodup _ (by rw [h]; exact (by decide : zPop 127 = 7))
  have hm : zTb f ∈ zPx 5 [f 0, f 1] := zPx_mem 5 [f 0, f 1] [f 2, f 3, f 4, f 5, f 6] rfl hn (fun d hd => hb d (by unfold zTb; simp at hd ⊢; omega))
  have hne : f 0 ≠ f 1 := by
    intro e
    unfold zTb at hn
    rw [List.nodup_cons] at hn
    exact hn.1 (by rw [e]; exact List.mem_cons_self)
  have h2 := zPq_2 (f 0) (hb _ (by unfold zTb; simp)) (f 1) (hb _ (by unfold zTb; simp)) hne
  refine ⟨List.all_eq_true.mp h2 _ hm, fun i hi => hb _ ?_⟩
  unfold zTb
  rcases (show i = 0 ∨ i = 1 ∨ i = 2 ∨ i = 3 ∨ i = 4 ∨ i = 5 ∨ i = 6 by omega) with rfl | rfl | rfl | rfl | rfl | rfl | rfl <;> simp
theorem zLt_i (f : Nat → Nat) {i : Nat} (hi : i < 7) : zLf (zTb f) i = f i := by
  rcases (show i = 0 ∨ i = 1 ∨ i = 2 ∨ i = 3 ∨ i = 4 ∨ i = 5 ∨ i = 6 by omega) with rfl | rfl | rfl | rfl | rfl | rfl | rfl <;> rfl
/-! rings, walked by both -/
theorem zCy_b (f : Nat → Nat) (hf : ∀ i, i < 7 → f i < 7) : ∀ (c met a k : Nat), a < 7 → met < 128 → (zCy f c met a k).1 < 128 ∧ (zCy f c met a k).2 ≤ k + c := by
  intro c
  induction c with
  | zero => exact fun met a k _ hm => ⟨hm, Nat.le_refl k⟩
  | succ c ih =>
    intro met a k ha hm
    unfold zCy
    split
    · exact ⟨hm, by omega⟩
    · have := ih (met ||| 1 <<< a) (f a) (k + 1) (hf a ha) (Nat.or_lt_two_pow (n := 7) hm (z1_lt ha))
      omega
theorem zccy {I : zI} {f : Nat → Nat} (hf : ∀ i, i < 7 → f i < 7) (h : ∀ i, i < 7 → I 64 i = zN (f i)) {v1 v3 : Int32} : ∀ (c i n met a k : Nat), i + c = 7 → c < n → a < 7 → met < 128 → Od_sittingsLeft_L21 n v1 (zN met) v3 (zN k) (zN a) (zN i) I = some (zN (zCy f c met a k).1, zN (zCy f c met a k).2) := by
  intro c
  induction c with
  | zero =>
    intro i n met a k hi hn ha hm
    obtain ⟨n, rfl⟩ : ∃ e, n = e + 1 := ⟨n - 1, by omega⟩
    rw [Od_sittingsLeft_L21, zl_7, if_pos ((zN_le (by decide) (by omega)).mpr (by omega))]
    rfl
  | succ c ih =>
    intro i n met a k hi hn ha hm
    obtain ⟨n, rfl⟩ : ∃ e, n = e + 1 := ⟨n - 1, by omega⟩
    rw [Od_sittingsLeft_L21, if_neg (by rw [zl_7, zN_le (by decide) (by omega)]; omega), zbHas I (by omega) (by omega), Option.bind_some]
    unfold zCy
    cases hb : met.testBit a
    · rw [if_pos (by decide), if_neg (by decide), zat_63 I ha, Option.bind_some, h a ha, zl_1, zN_shl 1 (by omega), zN_or, zN_add, zN_add]
      exact ih (i + 1) n (met ||| 1 <<< a) (f a) (k + 1) (by omega) (by omega) (hf a ha) (Nat.or_lt_two_pow (n := 7) hm (z1_lt ha))
    · rw [if_neg (by decide), if_pos rfl]
theorem zmcy {I : zI} {f : Nat → Nat} (hf : ∀ i, i < 7 → f i < 7) (h : ∀ i, i < 7 → I 90 i = zN (f i)) {v2 v3 : Int32} : ∀ (c n met a k : Nat), c < n → a < 7 → met < 128 → zCe f c met a = true → Mo_sitsBy_L18 n (zN met) v2 v3 (zN k) (zN a) I = some (zN (zCy f c met a k).1, zN (zCy f c met a k).2) := by
  intro c
  induction c with
  | zero =>
    intro n met a k hn ha hm he
    obtain ⟨n, rfl⟩ : ∃ e, n = e + 1 := ⟨n - 1, by omega⟩
    have hb : met.testBit a = true := he
    rw [Mo_sitsBy_L18, zmIsIn I (by omega) (by omega), Option.bind_some, hb, if_neg (by decide)]
    rfl
  | succ c ih =>
    intro n met a k hn ha hm he
    obtain ⟨n, rfl⟩ : ∃ e, n = e + 1 := ⟨n - 1, by omega⟩
    rw [Mo_sitsBy_L18, zmIsIn I (by omega) (by omega), Option.bind_some]
    unfold zCe at he
    unfold zCy
    cases hb : met.testBit a
    · rw [hb, if_neg (by decide)] at he
      rw [if_pos (by decide), if_pos ((zN_in (by omega)).mpr ha), if_neg (by decide), zN_tn (by omega), h a ha, zl_1, zN_shl 1 (by omega), zN_or, zN_add]
      exact ih n (met ||| 1 <<< a) (f a) (k + 1) (by omega) (hf a ha) (Nat.or_lt_two_pow (n := 7) hm (z1_lt ha)) he
    · rw [if_neg (by decide), if_pos rfl]
theorem zsu {i k : Nat} (hi : i < 100) (hk : k < 100) : (if zN k ≤ (1 : Int32) then some (0 : Int32) else if zN i = 0 then some (zN k - 1) else some (zN k + 1)) = some (zN (if k ≤ 1 then 0 else if i = 0 then k - 1 else k + 1)) := by
  by_cases q : k ≤ 1
  · rw [if_pos (show zN k ≤ 1 from (zN_le (by omega) (by decide)).mpr q), if_pos q]
    rfl
  · rw [if_neg (by rw [zl_1, zN_le (by omega) (by decide)]; exact q), if_neg q]
    by_cases q2 : i = 0
    · rw [if_pos (by rw [q2]; rfl), if_pos q2, zl_1, zN_sub (by omega)]
    · rw [if_neg (by rw [zl_0, zN_inj (by omega) (by decide)]; exact q2), if_neg q2, zl_1, zN_add]
theorem zcou {I : zI} {f : Nat → Nat} (hf : ∀ i, i < 7 → f i < 7) (h : ∀ i, i < 7 → I 64 i = zN (f i)) : ∀ (j i n met left : Nat), i + j = 7 → j + 20 < n → met < 128 → Od_sittingsLeft_L6 n (zN left) (zN met) (zN i) I = some (zN (zOu f j i met left)) := by
  intro j
  induction j with
  | zero =>
    intro i n met left hi hn hm
    obtain ⟨n, rfl⟩ : ∃ e, n = e + 1 := ⟨n - 1, by omega⟩
    rw [Od_sittingsLeft_L6, zl_7, if_pos ((zN_le (by decide) (by omega)).mpr (by omega))]
    rfl
  | succ j ih =>
    intro i n met left hi hn hm
    obtain ⟨n, rfl⟩ : ∃ e, n = e + 1 := ⟨n - 1, by omega⟩
    obtain ⟨b1, b2⟩ := zCy_b f hf 7 met i 0 (by omega) hm
    rw [Od_sittingsLeft_L6, if_neg (by rw [zl_7, zN_le (by decide) (by omega)]; omega), show Od_sittingsLeft_L21 n (zN left) (zN met) (zN i) 0 (zN i) 0 I = _ from zccy hf h 7 0 n met i 0 rfl (by omega) (by omega) hm, Option.bind_some]
    unfold zOu
    have e : (if zN (zCy f 7 met i 0).2 ≤ (1 : Int32) then some (zN left) else (if zN i = (0 : Int32) then some (zN (zCy f 7 met i 0).2 - 1) else some (zN (zCy f 7 met i 0).2 + 1) : Option Int32).bind fun x315 => some (zN left + x315)) = some (zN (left + if (zCy f 7 met i 0).2 ≤ 1 then 0 else if i = 0 then (zCy f 7 met i 0).2 - 1 else (zCy f 7 met i 0).2 + 1)) := by
      by_cases q : (zCy f 7 met i 0).2 ≤ 1
      · rw [if_pos (show zN (zCy f 7 met i 0).2 ≤ 1 from (zN_le (by omega) (by decide)).mpr q), if_pos q, Nat.add_zero]
      · have hz := zsu (i := i) (k := (zCy f 7 met i 0).2) (by omega) (by omega)
        have hn1 : ¬ (zN (zCy f 7 met i 0).2 ≤ (1 : Int32)) := by
          rw [zl_1, zN_le (by omega) (by decide)]
          exact q
        rw [if_neg hn1] at hz
        rw [if_neg hn1, hz, Option.bind_some, zN_add]
    show ((if zN (zCy f 7 met i 0).2 ≤ (1 : Int32) then some (zN left) else (if zN i = (0 : Int32) then some (zN (zCy f 7 met i 0).2 - 1) else some (zN (zCy f 7 met i 0).2 + 1) : Option Int32).bind fun x315 => some (zN left + x315)).bind fun x316 => Od_sittingsLeft_L6 n x316 (zN (zCy f 7 met i 0).1) (zN i + 1) I) = _
    rw [e, Option.bind_some, zl_1, zN_add]
    exact ih (i + 1) n _ _ (by omega) (by omega) b1
theorem zmou {I : zI} {f : Nat → Nat} (hf : ∀ i, i < 7 → f i < 7) (h : ∀ i, i < 7 → I 90 i = zN (f i)) : ∀ (j i n met left : Nat), i + j = 7 → j + 20 < n → met < 128 → zOk f j i met = true → Mo_sitsBy_L6 n (zN met) (zN left) (zN i) I = some (zN (zOu f j i met left)) := by
  intro j
  induction j with
  | zero =>
    intro i n met left hi hn hm ho
    obtain ⟨n, rfl⟩ : ∃ e, n = e + 1 := ⟨n - 1, by omega⟩
    rw [Mo_sitsBy_L6, zl_7, if_pos ((zN_le (by decide) (by omega)).mpr (by omega))]
    rfl
  | succ j ih =>
    intro i n met left hi hn hm ho
    obtain ⟨n, rfl⟩ : ∃ e, n = e + 1 := ⟨n - 1, by omega⟩
    unfold zOk at ho
    rw [Bool.and_eq_true] at ho
    obtain ⟨b1, b2⟩ := zCy_b f hf 7 met i 0 (by omega) hm
    rw [Mo_sitsBy_L6, if_neg (by rw [zl_7, zN_le (by decide) (by omega)]; omega), show Mo_sitsBy_L18 n (zN met) (zN left) (zN i) 0 (zN i) I = _ from zmcy hf h 7 n met i 0 (by omega) (by omega) hm ho.1, Option.bind_some]
    show ((if zN (zCy f 7 met i 0).2 ≤ (1 : Int32) then some (0 : Int32) else if zN i = (0 : Int32) then some (zN (zCy f 7 met i 0).2 - 1) else some (zN (zCy f 7 met i 0).2 + 1) : Option Int32).bind fun x680 => Mo_sitsBy_L6 n (zN (zCy f 7 met i 0).1) (zN left + x680) (zN i + 1) I) = _
    rw [zsu (by omega) (by omega), Option.bind_some, zN_add, zl_1, zN_add]
    exact ih (i + 1) n _ _ (by omega) (by omega) b1 ho.2
theorem zcsl {I : zI} {f : Nat → Nat} (hf : ∀ i, i < 7 → f i < 7) (h : ∀ i, i < 7 → I 64 i = zN (f i)) {n : Nat} (hn : 100 < n) : Od_sittingsLeft n I = some (zN (zSn f)) := by
  unfold Od_sittingsLeft
  rw [show Od_sittingsLeft_L6 n 0 0 0 I = _ from zcou hf h 7 0 n 0 0 rfl (by omega) (by decide), Option.bind_some]
  rfl
theorem zmsb {I : zI} {f : Nat → Nat} (hf : ∀ i, i < 7 → f i < 7) (h : ∀ i, i < 7 → I 90 i = zN (f i)) {n : Nat} (hn : 100 < n) (ho : zOk f 7 0 0 = true) : Mo_sitsBy n I = some (zN (zSn f)) := by
  unfold Mo_sitsBy
  rw [show Mo_sitsBy_L6 n 0 0 0 I = _ from zmou hf h 7 0 n 0 0 rfl (by omega) (by decide) ho, Option.bind_some]
  rfl
theorem zOu_b (f : Nat → Nat) (hf : ∀ i, i < 7 → f i < 7) : ∀ (j i met left : Nat), i + j = 7 → met < 128 → zOu f j i met left ≤ left + 8 * j := by
  intro j
  induction j with
  | zero => exact fun _ _ _ _ _ => by unfold zOu; omega
  | succ j ih =>
    intro i met left hi hm
    obtain ⟨b1, b2⟩ := zCy_b f hf 7 met i 0 (by omega) hm
    unfold zOu
    refine Nat.le_trans (ih (i + 1) _ _ (by omega) b1) ?_
    have he : (if (zCy f 7 met i 0).2 ≤ 1 then 0 else if i = 0 then (zCy f 7 met i 0).2 - 1 else (zCy f 7 met i 0).2 + 1) ≤ 8 := by
      split
      · omega
      · split <;> omega
    generalize (if (zCy f 7 met i 0).2 ≤ 1 then 0 else if i = 0 then (zCy f 7 met i 0).2 - 1 else (zCy f 7 met i 0).2 + 1) = e at he ⊢
    omega
theorem zSn_b (f : Nat → Nat) (hf : ∀ i, i < 7 → f i < 7) : zSn f ≤ 56 := by
  have := zOu_b f hf 7 0 0 0 rfl (by decide)
  unfold zSn
  omega
/-- behind an exchange -/
def zXf (f : Nat → Nat) (b : Nat) : Nat → Nat := zLf (zTb (zSw f b))
theorem zXf_i {f : Nat → Nat} {b i : Nat} (hi : i < 7) : zXf f b i = if i = 0 then f b else if i = b then f 0 else f i := by
  unfold zXf
  rw [zLt_i _ hi]
  rfl
theorem zXf_lt {f : Nat → Nat} (hf : ∀ i, i < 7 → f i < 7) {b : Nat} (hb : b < 7) : ∀ i, i < 7 → zXf f b i < 7 := by
  intro i hi
  rw [zXf_i hi]
  split
  · exact hf b hb
  · split
    · exact hf 0 (by decide)
    · exact hf i hi
def zFb (f : Nat → Nat) : Nat → Nat → Nat
  | 0, _ => 100
  | j + 1, b => if zSn (zXf f b) < zSn f then b else zFb f j (b + 1)
theorem zcswap {I : zI} {f : Nat → Nat} (h : ∀ i, i < 7 → I 64 i = zN (f i)) {b : Nat} (hb : b < 7) (h0 : 0 < b) : ∃ I', Od_swapWith (zN b) I = some I' ∧ (∀ c, c ≠ 64 → I' c = I c) ∧ ∀ i, i < 7 → I' 64 i = zN (zXf f b i) := by
  unfold Od_swapWith
  rw [show Rw_at_63 0 I = _ from zat_63 I (show 0 < 7 by decide), Option.bind_some, zat_63 I hb, Option.bind_some, show ∀ v, Rw_put_63 0 v I = _ from fun v => zput_63 v I (show 0 < 7 by decide), Option.bind_some, zput_63 _ _ hb, Option.bind_some]
  refine ⟨_, rfl, fun c c1 => by rw [zUp_ne c1, zUp_ne c1], fun i hi => ?_⟩
  rw [zXf_i hi, zUp_at, zUp_at]
  by_cases q : i = b
  · rw [if_pos q, if_neg (by omega), if_pos q, h 0 (by decide)]
  · rw [if_neg q]
    by_cases q2 : i = 0
    · rw [if_pos q2, if_pos q2, h b hb]
    · rw [if_neg q2, if_neg q2, if_neg q, h i hi]
theorem zmswap {I : zI} {f : Nat → Nat} (h : ∀ i, i < 7 → I 90 i = zN (f i)) {b : Nat} (hb : b < 7) (h0 : 0 < b) : ∃ I', Mo_seat (zN b) I = some I' ∧ (∀ c, c ≠ 90 → I' c = I c) ∧ ∀ i, i < 7 → I' 90 i = zN (zXf f b i) := by
  unfold Mo_seat
  rw [if_pos ((zN_in (by omega)).mpr hb), if_pos ((zN_in (by omega)).mpr hb), zN_tn (by omega)]
  refine ⟨_, rfl, fun c c1 => by rw [zUp_ne c1, zUp_ne c1], fun i hi => ?_⟩
  rw [zXf_i hi, zUp_at, zUp_at]
  by_cases q : i = b
  · rw [if_pos q, if_neg (by omega), if_pos q, h 0 (by decide)]
  · rw [if_neg q]
    by_cases q2 : i = 0
    · rw [if_pos q2, if_pos q2, h b hb]
    · rw [if_neg q2, if_neg q2, if_neg q, h i hi]
theorem zXX {f : Nat → Nat} {b i : Nat} (hb : b < 7) (h0 : 0 < b) (hi : i < 7) : zXf (zXf f b) b i = f i := by
  rw [zXf_i hi, zXf_i hb, zXf_i (show 0 < 7 by decide), zXf_i hi]
  by_cases q : i = 0
  · rw [if_pos q, if_neg (by omega), if_pos rfl, q]
  · rw [if_neg q, if_neg q]
    by_cases q2 : i = b
    · rw [if_pos q2, if_pos rfl, q2]
    · rw [if_neg q2, if_neg q2]
theorem zcfb {f : Nat → Nat} (hf : ∀ i, i < 7 → f i < 7) : ∀ (j b n : Nat) (I : zI), b + j = 7 → 0 < b → j + 200 < n → (∀ i, i < 7 → I 64 i = zN (f i)) → ∃ I', Od_firstSitting_L7 n (zN (zSn f)) (zN b) I = some (zE (zFb f j b), I') ∧ (∀ c, c ≠ 64 → I' c = I c) := by
  have hs := zSn_b f hf
  intro j
  induction j with
  | zero =>
    intro b n I hb h0 hn h
    obtain ⟨n, rfl⟩ : ∃ e, n = e + 1 := ⟨n - 1, by omega⟩
    rw [Od_firstSitting_L7, zl_7, if_pos ((zN_le (by decide) (by omega)).mpr (by omega))]
    exact ⟨I, rfl, fun _ _ => rfl⟩
  | succ j ih =>
    intro b n I hb h0 hn h
    obtain ⟨n, rfl⟩ : ∃ e, n = e + 1 := ⟨n - 1, by omega⟩
    obtain ⟨I1, a1, a2, a3⟩ := zcswap h (show b < 7 by omega) h0
    obtain ⟨I2, b1, b2, b3⟩ := zcswap a3 (show b < 7 by omega) h0
    have hx := zXf_lt hf (show b < 7 by omega)
    have hs2 := zSn_b _ hx
    rw [Od_firstSitting_L7, if_neg (by rw [zl_7, zN_le (by decide) (by omega)]; omega), a1, Option.bind_some, zcsl hx a3 (by omega), Option.bind_some, b1, Option.bind_some]
    unfold zFb
    by_cases q : zSn (zXf f b) < zSn f
    · rw [if_neg (by rw [zN_le (by omega) (by omega)]; omega), if_pos q, zE_lt (by omega)]
      exact ⟨I2, rfl, fun c c1 => (b2 c c1).trans (a2 c c1)⟩
    · rw [if_pos ((zN_le (by omega) (by omega)).mpr (by omega)), if_neg q, zl_1, zN_add]
      obtain ⟨I', e1, e2⟩ := ih (b + 1) n I2 (by omega) (by omega) (by omega) (fun i hi => by rw [b3 i hi, zXX (by omega) h0 hi])
      exact ⟨I', e1, fun c c1 => by rw [e2 c c1, b2 c c1, a2 c c1]⟩
theorem zmfb {f : Nat → Nat} (hf : ∀ i, i < 7 → f i < 7) (hq : ∀ b, 0 < b → b < 7 → zOk (zXf f b) 7 0 0 = true ∧ zSn f ≤ zSn (zXf f b) + 1) : ∀ (k n : Nat) (I : zI), k ≤ 6 → k + 200 < n → (∀ i, i < 7 → I 90 i = zN (f i)) → ∃ I', Mo_right_L52 n (zN (zSn f)) (zE (zFb f (6 - k) (k + 1))) (zN k) I = some (zE (zFb f 6 1), I') ∧ (∀ c, c ≠ 90 → I' c = I c) := by
  have hs := zSn_b f hf
  intro k
  induction k with
  | zero =>
    intro n I hk hn h
    obtain ⟨n, rfl⟩ : ∃ e, n = e + 1 := ⟨n - 1, by omega⟩
    rw [Mo_right_L52, if_pos (by decide)]
    exact ⟨I, rfl, fun _ _ => rfl⟩
  | succ k ih =>
    intro n I hk hn h
    obtain ⟨n, rfl⟩ : ∃ e, n = e + 1 := ⟨n - 1, by omega⟩
    obtain ⟨I1, a1, a2, a3⟩ := zmswap h (show k + 1 < 7 by omega) (by omega)
    obtain ⟨I2, b1, b2, b3⟩ := zmswap a3 (show k + 1 < 7 by omega) (by omega)
    have hx := zXf_lt hf (show k + 1 < 7 by omega)
    have hs2 := zSn_b _ hx
    obtain ⟨o1, o2⟩ := hq (k + 1) (by omega) (by omega)
    rw [Mo_right_L52, if_neg (by rw [zl_0, zN_le (by omega) (by decide)]; omega), a1, Option.bind_some, zmsb hx a3 (by omega) o1, Option.bind_some]
    have e : (if zN (zSn (zXf f (k + 1))) = zN (zSn f) - 1 then some (zN (k + 1)) else some (zE (zFb f (6 - (k + 1)) (k + 1 + 1)))) = some (zE (zFb f (6 - k) (k + 1))) := by
      rw [show 6 - k = (6 - (k + 1)) + 1 by omega]
      conv => rhs; unfold zFb
      by_cases q : zSn (zXf f (k + 1)) < zSn f
      · rw [if_pos q, if_pos (by rw [zl_1, zN_sub (by omega), zN_inj (by omega) (by omega)]; omega), zE_lt (by omega)]
      · rw [if_neg q, if_neg]
        intro z
        by_cases z0 : zSn f = 0
        · rw [z0] at z
          have h2 : (zN 0 - 1 : Int32) = -(zN 1) := by decide
          rw [h2, zN_ne (by omega) (by decide) (by decide)] at z
          exact z
        · rw [zl_1, zN_sub (by omega), zN_inj (by omega) (by omega)] at z
          omega
    have ek : zN (k + 1) + -1 = zN k := by
      rw [Int32.add_neg_eq_sub]
      exact zN_p k (by omega)
    rw [e, Option.bind_some, b1, Option.bind_some, ek]
    obtain ⟨I', e1, e2⟩ := ih n I2 (by omega) (by omega) (fun i hi => by rw [b3 i hi, zXX (by omega) (by omega) hi])
    exact ⟨I', e1, fun c c1 => by rw [e2 c c1, b2 c c1, a2 c c1]⟩
