/-! THE STATE, as naturals: 0 ways (bits), 1 where a one stands, 2 where a memory is (a one; 10 and a bench; 100), 3 what is at a place (100: nothing), 4 how fresh a memory is, 5 cushions, day, sights, 6 a sight ((sat, who, had) in one), 7 hands, 8 acts, sittings, failed, why -/
abbrev zA : Type := Nat → Nat → Nat
/-- the class's garden at the cell a -/
def GC (a : Nat) (I : zI) (s : zA) : Prop := (∀ i, i < 10 → I (a + 2) i = zN (s 0 i)) ∧ (∀ i, i < 8 → I (a + 4) i = zN (s 1 i)) ∧ (∀ i, i < 12 → I (a + 6) i = zE (s 2 i)) ∧ (∀ i, i < 12 → I (a + 8) i = zN (s 4 i)) ∧ (∀ i, i < 8 → I (a + 10) i = zN (s 6 i)) ∧ I a 5 = zN (s 5 2) ∧ I a 6 = zN (s 5 0) ∧ I a 7 = zN (s 5 1)
/-- the reference's, by its rows -/
def GR (ways place has there fresh sat who had : Nat → Int32) (cu day cnt : Int32) (s : zA) : Prop := (∀ i, i < 10 → ways i = zN (s 0 i)) ∧ (∀ i, i < 8 → place i = zN (s 1 i)) ∧ (∀ i, i < 8 → has i = zE (s 3 i)) ∧ (∀ i, i < 10 → there i = zE (s 3 (10 + i))) ∧ (∀ i, i < 10 → fresh i = if s 3 (10 + i) < 100 then zN (s 4 (s 3 (10 + i))) else -(zN 6)) ∧ (∀ i, i < 8 → sat i = zN (s 6 i / 2 / 8)) ∧ (∀ i, i < 8 → who i = zN (s 6 i / 2 % 8)) ∧ (∀ i, i < 8 → had i = zN (s 6 i % 2)) ∧ cu = zN (s 5 0) ∧ day = zN (s 5 1) ∧ cnt = zN (s 5 2)
def GM (I : zI) (s : zA) : Prop := GR (I 74) (I 75) (I 76) (I 77) (I 78) (I 79) (I 80) (I 81) (I 73 5) (I 73 6) (I 73 10) s
/-- an image that the reference keeps -/
def GK (j : Nat) (I : zI) (s : zA) : Prop := GR (fun i => I 94 (100 * j + 3 + i)) (fun i => I 94 (100 * j + 13 + i)) (fun i => I 94 (100 * j + 21 + i)) (fun i => I 94 (100 * j + 29 + i)) (fun i => I 94 (100 * j + 39 + i)) (fun i => I 94 (100 * j + 49 + i)) (fun i => I 94 (100 * j + 57 + i)) (fun i => I 94 (100 * j + 65 + i)) (I 94 (100 * j)) (I 94 (100 * j + 1)) (I 94 (100 * j + 2)) s
/-- what holds of every state -/
def zPl (c o : Nat → Nat) : Prop := (∀ m, m < 12 → c m < 8 ∨ (10 ≤ c m ∧ c m < 20) ∨ c m = 100) ∧ (∀ p, p < 20 → o p < 12 ∨ o p = 100) ∧ ∀ m p, m < 12 → p < 20 → (c m = p ↔ o p = m)
def VS (s : zA) : Prop := (∀ b, b < 10 → s 0 b < 1024) ∧ (∀ a b, a < 10 → b < 10 → (s 0 a).testBit b = (s 0 b).testBit a) ∧ (∀ k, k < 8 → s 1 k < 10) ∧ zPl (s 2) (s 3) ∧ (∀ m, m < 12 → 10 ≤ s 2 m → s 2 m < 100 → 1 ≤ s 4 m ∧ s 4 m ≤ 9) ∧ s 5 0 < 1024 ∧ s 5 1 ≤ 99 ∧ s 5 2 ≤ 8 ∧ (∀ i, i < 8 → s 6 i < 976) ∧ (∀ m, m < 12 → s 4 m ≤ 9)
theorem zPl_c {c o : Nat → Nat} (h : zPl c o) {m : Nat} (hm : m < 12) : c m < 8 ∨ (10 ≤ c m ∧ c m < 20) ∨ c m = 100 := h.1 m hm
theorem zPl_o {c o : Nat → Nat} (h : zPl c o) {p : Nat} (hp : p < 20) : o p < 12 ∨ o p = 100 := h.2.1 p hp
theorem zPl_i {c o : Nat → Nat} (h : zPl c o) {m p : Nat} (hm : m < 12) (hp : p < 20) : c m = p ↔ o p = m := h.2.2 m p hm hp
/-- two places change what is at them -/
def zX2 (c : Nat → Nat) (p q : Nat) : Nat → Nat := fun m => if c m = p then q else if c m = q then p else c m
def zX3 (o : Nat → Nat) (p q : Nat) : Nat → Nat := fun x => if x = p then o q else if x = q then o p else o x
theorem zPl_x {c o : Nat → Nat} (h : zPl c o) {p q : Nat} (hp : p < 8 ∨ (10 ≤ p ∧ p < 20)) (hq : q < 8 ∨ (10 ≤ q ∧ q < 20)) : zPl (zX2 c p q) (zX3 o p q) := by
  refine ⟨fun m hm => ?_, fun x hx => ?_, fun m x hm hx => ?_⟩
  · have := zPl_c h hm
    unfold zX2
    split
    · omega
    · split <;> omega
  · unfold zX3
    have h1 := zPl_o h hx
    have h2 := zPl_o h (show p < 20 by omega)
    have h3 := zPl_o h (show q < 20 by omega)
    split
    · exact h3
    · split
      · exact h2
      · exact h1
  · unfold zX2 zX3
    have h1 := zPl_i h hm hx
    have h2 := zPl_i h hm (show p < 20 by omega)
    have h3 := zPl_i h hm (show q < 20 by omega)
    by_cases e1 : c m = p
    · rw [if_pos e1]
      by_cases e2 : x = p
      · rw [if_pos e2]
        subst e2
        by_cases e3 : q = x
        · subst e3
          exact ⟨fun _ => h2.mp e1, fun _ => rfl⟩
        · constructor
          · intro e
            omega
          · intro e
            have := h3.mpr e
            omega
      · rw [if_neg e2]
        by_cases e3 : x = q
        · rw [if_pos e3]
          exact ⟨fun _ => h2.mp e1, fun _ => e3.symm⟩
        · rw [if_neg e3]
          constructor
          · intro e
            omega
          · intro e
            have := h1.mpr e
            omega
    · rw [if_neg e1]
      by_cases e4 : c m = q
      · rw [if_pos e4]
        by_cases e2 : x = p
        · rw [if_pos e2]
          exact ⟨fun _ => h3.mp e4, fun _ => e2.symm⟩
        · rw [if_neg e2]
          by_cases e3 : x = q
          · rw [if_pos e3]
            constructor
            · intro e
              omega
            · intro e
              exact absurd (h2.mpr e) e1
          · rw [if_neg e3]
            constructor
            · intro e
              omega
            · intro e
              have := h1.mpr e
              omega
      · rw [if_neg e4]
        by_cases e2 : x = p
        · rw [if_pos e2]
          constructor
          · intro e
            omega
          · intro e
            exact absurd (h3.mpr e) e4
        · rw [if_neg e2]
          by_cases e3 : x = q
          · rw [if_pos e3]
            constructor
            · intro e
              omega
            · intro e
              exact absurd (h2.mpr e) e1
          · rw [if_neg e3]
            exact h1
/-- a memory goes to a place (100: nowhere); what was there is nowhere -/
def zG2 (c o : Nat → Nat) (m q : Nat) : Nat → Nat := fun x => if x = m then q else if c x = q then 100 else c x
def zG3 (c o : Nat → Nat) (m q : Nat) : Nat → Nat := fun x => if x = q then m else if x = c m then 100 else o x
theorem zPl_g {c o : Nat → Nat} (h : zPl c o) {m q : Nat} (hm : m < 12) (hq : q < 8 ∨ (10 ≤ q ∧ q < 20) ∨ q = 100) : zPl (zG2 c o m q) (zG3 c o m q) := by
  refine ⟨fun x hx => ?_, fun x hx => ?_, fun x p hx hp => ?_⟩
  · have := zPl_c h hx
    unfold zG2
    split
    · omega
    · split <;> omega
  · unfold zG3
    have h1 := zPl_o h hx
    split
    · omega
    · split
      · omega
      · exact h1
  · unfold zG2 zG3
    have h1 := zPl_i h hx hp
    have h2 := zPl_i h hm hp
    by_cases e1 : x = m
    · rw [if_pos e1]
      subst e1
      by_cases e2 : p = q
      · rw [if_pos e2]
        exact ⟨fun _ => rfl, fun _ => e2.symm⟩
      · rw [if_neg e2]
        by_cases e3 : p = c x
        · rw [if_pos e3]
          constructor
          · intro e
            omega
          · intro e
            omega
        · rw [if_neg e3]
          constructor
          · intro e
            omega
          · intro e
            have := h1.mpr e
            omega
    · rw [if_neg e1]
      by_cases e2 : p = q
      · rw [if_pos e2]
        by_cases e4 : c x = q
        · rw [if_pos e4]
          constructor
          · intro e
            omega
          · intro e
            omega
        · rw [if_neg e4]
          constructor
          · intro e
            omega
          · intro e
            omega
      · rw [if_neg e2]
        by_cases e3 : p = c m
        · rw [if_pos e3]
          have h3 := h2.mp e3.symm
          by_cases e4 : c x = q
          · rw [if_pos e4]
            constructor
            · intro e
              omega
            · intro e
              omega
          · rw [if_neg e4]
            constructor
            · intro e
              have := h1.mp e
              omega
            · intro e
              omega
        · rw [if_neg e3]
          by_cases e4 : c x = q
          · rw [if_pos e4]
            constructor
            · intro e
              omega
            · intro e
              have := h1.mpr e
              omega
          · rw [if_neg e4]
            exact h1
