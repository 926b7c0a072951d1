/-! the class's garden, read by its picture -/
theorem gc2_0 {I : zI} {s : zA} (h : GC 2 I s) {i : Nat} (hi : i < 10) : I 4 i = zN (s 0 i) := h.1 i hi
theorem gc2_1 {I : zI} {s : zA} (h : GC 2 I s) {i : Nat} (hi : i < 8) : I 6 i = zN (s 1 i) := h.2.1 i hi
theorem gc2_2 {I : zI} {s : zA} (h : GC 2 I s) {i : Nat} (hi : i < 12) : I 8 i = zE (s 2 i) := h.2.2.1 i hi
theorem gc2_4 {I : zI} {s : zA} (h : GC 2 I s) {i : Nat} (hi : i < 12) : I 10 i = zN (s 4 i) := h.2.2.2.1 i hi
theorem gc2_6 {I : zI} {s : zA} (h : GC 2 I s) {i : Nat} (hi : i < 8) : I 12 i = zN (s 6 i) := h.2.2.2.2.1 i hi
theorem gc2_cnt {I : zI} {s : zA} (h : GC 2 I s) : I 2 5 = zN (s 5 2) := h.2.2.2.2.2.1
theorem gc2_cu {I : zI} {s : zA} (h : GC 2 I s) : I 2 6 = zN (s 5 0) := h.2.2.2.2.2.2.1
theorem gc2_day {I : zI} {s : zA} (h : GC 2 I s) : I 2 7 = zN (s 5 1) := h.2.2.2.2.2.2.2
theorem gc39_0 {I : zI} {s : zA} (h : GC 39 I s) {i : Nat} (hi : i < 10) : I 41 i = zN (s 0 i) := h.1 i hi
theorem gc39_1 {I : zI} {s : zA} (h : GC 39 I s) {i : Nat} (hi : i < 8) : I 43 i = zN (s 1 i) := h.2.1 i hi
theorem gc39_2 {I : zI} {s : zA} (h : GC 39 I s) {i : Nat} (hi : i < 12) : I 45 i = zE (s 2 i) := h.2.2.1 i hi
theorem gc39_4 {I : zI} {s : zA} (h : GC 39 I s) {i : Nat} (hi : i < 12) : I 47 i = zN (s 4 i) := h.2.2.2.1 i hi
theorem gc39_6 {I : zI} {s : zA} (h : GC 39 I s) {i : Nat} (hi : i < 8) : I 49 i = zN (s 6 i) := h.2.2.2.2.1 i hi
theorem gc39_cnt {I : zI} {s : zA} (h : GC 39 I s) : I 39 5 = zN (s 5 2) := h.2.2.2.2.2.1
theorem gc39_cu {I : zI} {s : zA} (h : GC 39 I s) : I 39 6 = zN (s 5 0) := h.2.2.2.2.2.2.1
theorem gc39_day {I : zI} {s : zA} (h : GC 39 I s) : I 39 7 = zN (s 5 1) := h.2.2.2.2.2.2.2
theorem gc13_0 {I : zI} {s : zA} (h : GC 13 I s) {i : Nat} (hi : i < 10) : I 15 i = zN (s 0 i) := h.1 i hi
theorem gc13_1 {I : zI} {s : zA} (h : GC 13 I s) {i : Nat} (hi : i < 8) : I 17 i = zN (s 1 i) := h.2.1 i hi
theorem gc13_2 {I : zI} {s : zA} (h : GC 13 I s) {i : Nat} (hi : i < 12) : I 19 i = zE (s 2 i) := h.2.2.1 i hi
theorem gc13_4 {I : zI} {s : zA} (h : GC 13 I s) {i : Nat} (hi : i < 12) : I 21 i = zN (s 4 i) := h.2.2.2.1 i hi
theorem gc13_6 {I : zI} {s : zA} (h : GC 13 I s) {i : Nat} (hi : i < 8) : I 23 i = zN (s 6 i) := h.2.2.2.2.1 i hi
theorem gc13_cnt {I : zI} {s : zA} (h : GC 13 I s) : I 13 5 = zN (s 5 2) := h.2.2.2.2.2.1
theorem gc13_cu {I : zI} {s : zA} (h : GC 13 I s) : I 13 6 = zN (s 5 0) := h.2.2.2.2.2.2.1
theorem gc13_day {I : zI} {s : zA} (h : GC 13 I s) : I 13 7 = zN (s 5 1) := h.2.2.2.2.2.2.2
theorem gc24_0 {I : zI} {s : zA} (h : GC 24 I s) {i : Nat} (hi : i < 10) : I 26 i = zN (s 0 i) := h.1 i hi
theorem gc24_1 {I : zI} {s : zA} (h : GC 24 I s) {i : Nat} (hi : i < 8) : I 28 i = zN (s 1 i) := h.2.1 i hi
theorem gc24_2 {I : zI} {s : zA} (h : GC 24 I s) {i : Nat} (hi : i < 12) : I 30 i = zE (s 2 i) := h.2.2.1 i hi
theorem gc24_4 {I : zI} {s : zA} (h : GC 24 I s) {i : Nat} (hi : i < 12) : I 32 i = zN (s 4 i) := h.2.2.2.1 i hi
theorem gc24_6 {I : zI} {s : zA} (h : GC 24 I s) {i : Nat} (hi : i < 8) : I 34 i = zN (s 6 i) := h.2.2.2.2.1 i hi
theorem gc24_cnt {I : zI} {s : zA} (h : GC 24 I s) : I 24 5 = zN (s 5 2) := h.2.2.2.2.2.1
theorem gc24_cu {I : zI} {s : zA} (h : GC 24 I s) : I 24 6 = zN (s 5 0) := h.2.2.2.2.2.2.1
theorem gc24_day {I : zI} {s : zA} (h : GC 24 I s) : I 24 7 = zN (s 5 1) := h.2.2.2.2.2.2.2
theorem gm_w {I : zI} {s : zA} (h : GM I s) {i : Nat} (hi : i < 10) : I 74 i = zN (s 0 i) := h.1 i hi
theorem gm_p {I : zI} {s : zA} (h : GM I s) {i : Nat} (hi : i < 8) : I 75 i = zN (s 1 i) := h.2.1 i hi
theorem gm_h {I : zI} {s : zA} (h : GM I s) {i : Nat} (hi : i < 8) : I 76 i = zE (s 3 i) := h.2.2.1 i hi
theorem gm_t {I : zI} {s : zA} (h : GM I s) {i : Nat} (hi : i < 10) : I 77 i = zE (s 3 (10 + i)) := h.2.2.2.1 i hi
theorem gm_f {I : zI} {s : zA} (h : GM I s) {i : Nat} (hi : i < 10) : I 78 i = if s 3 (10 + i) < 100 then zN (s 4 (s 3 (10 + i))) else -(zN 6) := h.2.2.2.2.1 i hi
theorem gm_sat {I : zI} {s : zA} (h : GM I s) {i : Nat} (hi : i < 8) : I 79 i = zN (s 6 i / 2 / 8) := h.2.2.2.2.2.1 i hi
theorem gm_who {I : zI} {s : zA} (h : GM I s) {i : Nat} (hi : i < 8) : I 80 i = zN (s 6 i / 2 % 8) := h.2.2.2.2.2.2.1 i hi
theorem gm_had {I : zI} {s : zA} (h : GM I s) {i : Nat} (hi : i < 8) : I 81 i = zN (s 6 i % 2) := h.2.2.2.2.2.2.2.1 i hi
theorem gm_cu {I : zI} {s : zA} (h : GM I s) : I 73 5 = zN (s 5 0) := h.2.2.2.2.2.2.2.2.1
theorem gm_day {I : zI} {s : zA} (h : GM I s) : I 73 6 = zN (s 5 1) := h.2.2.2.2.2.2.2.2.2.1
theorem gm_cnt {I : zI} {s : zA} (h : GM I s) : I 73 10 = zN (s 5 2) := h.2.2.2.2.2.2.2.2.2.2
theorem vs_w {s : zA} (h : VS s) : ∀ b, b < 10 → s 0 b < 1024 := h.1
theorem vs_sy {s : zA} (h : VS s) : ∀ a b, a < 10 → b < 10 → (s 0 a).testBit b = (s 0 b).testBit a := h.2.1
theorem vs_p {s : zA} (h : VS s) : ∀ k, k < 8 → s 1 k < 10 := h.2.2.1
theorem vs_pl {s : zA} (h : VS s) : zPl (s 2) (s 3) := h.2.2.2.1
theorem vs_fr {s : zA} (h : VS s) : ∀ m, m < 12 → 10 ≤ s 2 m → s 2 m < 100 → 1 ≤ s 4 m ∧ s 4 m ≤ 9 := h.2.2.2.2.1
theorem vs_cu {s : zA} (h : VS s) : s 5 0 < 1024 := h.2.2.2.2.2.1
theorem vs_day {s : zA} (h : VS s) : s 5 1 ≤ 99 := h.2.2.2.2.2.2.1
theorem vs_cnt {s : zA} (h : VS s) : s 5 2 ≤ 8 := h.2.2.2.2.2.2.2.1
theorem vs_si {s : zA} (h : VS s) : ∀ i, i < 8 → s 6 i < 976 := h.2.2.2.2.2.2.2.2.1
theorem vs_f9 {s : zA} (h : VS s) : ∀ m, m < 12 → s 4 m ≤ 9 := h.2.2.2.2.2.2.2.2.2
theorem zma2 {I : zI} {s : zA} (h : GC 2 I s) (v : VS s) {p n : Nat} (hp : p < 20) (hn : 12 < n) : Ga_memoryAt_2 n (zN p) I = some (zE (s 3 p)) := zmem_2 (vs_pl v) (fun m hm => gc2_2 h hm) hp hn
theorem zbo2 {I : zI} {s : zA} (h : GC 2 I s) {k : Nat} (hk : k < 8) : Ga_benchOf_2 (zN k) I = some (zN (s 1 k)) := by
  unfold Ga_benchOf_2
  rw [zat_5 I hk, Option.bind_some, gc2_1 h hk]
theorem zhc2 {I : zI} {s : zA} (h : GC 2 I s) (v : VS s) {b : Nat} (hb : b < 32) : Ga_hasCushion_2 (zN b) I = some (zB ((s 5 0).testBit b)) := by
  unfold Ga_hasCushion_2
  have := vs_cu v
  rw [gc2_cu h, zbHas I (by omega) hb, Option.bind_some, if_pos (zB_o _)]
theorem zma39 {I : zI} {s : zA} (h : GC 39 I s) (v : VS s) {p n : Nat} (hp : p < 20) (hn : 12 < n) : Ga_memoryAt_39 n (zN p) I = some (zE (s 3 p)) := zmem_39 (vs_pl v) (fun m hm => gc39_2 h hm) hp hn
theorem zbo39 {I : zI} {s : zA} (h : GC 39 I s) {k : Nat} (hk : k < 8) : Ga_benchOf_39 (zN k) I = some (zN (s 1 k)) := by
  unfold Ga_benchOf_39
  rw [zat_42 I hk, Option.bind_some, gc39_1 h hk]
theorem zhc39 {I : zI} {s : zA} (h : GC 39 I s) (v : VS s) {b : Nat} (hb : b < 32) : Ga_hasCushion_39 (zN b) I = some (zB ((s 5 0).testBit b)) := by
  unfold Ga_hasCushion_39
  have := vs_cu v
  rw [gc39_cu h, zbHas I (by omega) hb, Option.bind_some, if_pos (zB_o _)]
/-! what an act is: why it can not be (0: it can), what it does -/
def zWhy (s : zA) (a k t : Nat) : Nat := if a = 0 then (if (s 0 (s 1 k)).testBit t = true then 0 else 1) else if a = 1 then (if (s 5 0).testBit (s 1 k) = true then 2 else if s 3 k < 100 then 0 else if s 3 (10 + s 1 k) < 100 then 0 else 3) else if a = 2 then (if s 3 k < 100 then (if k = t then 4 else if s 1 k = s 1 t then 0 else 4) else if s 3 t < 100 then (if k = t then 4 else if s 1 k = s 1 t then 0 else 4) else 3) else if a = 3 then (if s 3 k < 100 then 0 else 3) else if a = 5 then (if s 5 1 < 99 then 0 else 5) else 0
theorem zWhy_0 (s : zA) (k t : Nat) : zWhy s 0 k t = if (s 0 (s 1 k)).testBit t = true then 0 else 1 := rfl
theorem zWhy_1 (s : zA) (k t : Nat) : zWhy s 1 k t = if (s 5 0).testBit (s 1 k) = true then 2 else if s 3 k < 100 then 0 else if s 3 (10 + s 1 k) < 100 then 0 else 3 := rfl
theorem zWhy_2 (s : zA) (k t : Nat) : zWhy s 2 k t = if s 3 k < 100 then (if k = t then 4 else if s 1 k = s 1 t then 0 else 4) else if s 3 t < 100 then (if k = t then 4 else if s 1 k = s 1 t then 0 else 4) else 3 := rfl
theorem zWhy_3 (s : zA) (k t : Nat) : zWhy s 3 k t = if s 3 k < 100 then 0 else 3 := rfl
theorem zWhy_5 (s : zA) (k t : Nat) : zWhy s 5 k t = if s 5 1 < 99 then 0 else 5 := rfl
def zEv2 (s : zA) : Nat → Nat := fun m => if 10 ≤ s 2 m ∧ s 2 m < 100 ∧ s 4 m ≤ 1 then 100 else s 2 m
def zEv3 (s : zA) : Nat → Nat := fun p => if 10 ≤ p ∧ s 3 p < 100 ∧ s 4 (s 3 p) ≤ 1 then 100 else s 3 p
def zEv4 (s : zA) : Nat → Nat := fun m => if 10 ≤ s 2 m ∧ s 2 m < 100 then s 4 m - 1 else s 4 m
def zDo (s : zA) (a k t : Nat) : zA := if a = 0 then zUp s 1 k t else if a = 1 then yPs s (zX2 (s 2) k (10 + s 1 k)) (zX3 (s 3) k (10 + s 1 k)) (fun m => if m = s 3 k then 9 else s 4 m) else if a = 2 then yPs s (zX2 (s 2) k t) (zX3 (s 3) k t) (s 4) else if a = 3 then yPs s (zG2 (s 2) (s 3) (s 3 k) 100) (zG3 (s 2) (s 3) (s 3 k) 100) (s 4) else if a = 4 then zUp s 5 0 (s 5 0 ^^^ (1 <<< t)) else yPs (zUp s 5 1 (s 5 1 + 1)) (zEv2 s) (zEv3 s) (zEv4 s)
def zTok (a t : Nat) : Prop := (a = 0 → t < 10) ∧ (a = 2 → t < 8) ∧ (a = 4 → t < 10)
theorem z6 {a : Nat} (h : a < 6) : a = 0 ∨ a = 1 ∨ a = 2 ∨ a = 3 ∨ a = 4 ∨ a = 5 := by omega
theorem zwhy39 {I : zI} {s : zA} (h : GC 39 I s) (v : VS s) {n a k t : Nat} {t' : Int32} (ha : a < 6) (hk : k < 8) (ht : zTok a t) (ht' : a = 0 ∨ a = 2 ∨ a = 4 → t' = zN t) (hn : 12 < n) : Ga_whyNot_39 n (zN a) (zN k) t' I = some (zN (zWhy s a k t)) := by
  unfold Ga_whyNot_39
  have hb := vs_p v k hk
  have hw := vs_w v _ hb
  rcases z6 ha with rfl | rfl | rfl | rfl | rfl | rfl
  · have h1 := ht.1 rfl
    rw [if_pos (by decide), ht' (Or.inl rfl), zbo39 h hk, Option.bind_some, zat_40 I hb, Option.bind_some, gc39_0 h hb, zbHas I (by omega) (by omega), Option.bind_some, zWhy_0]
    cases (s 0 (s 1 k)).testBit t <;> rfl
  · rw [if_neg (by decide), if_pos (by decide)]
    unfold Ga_whyNotSit_39
    rw [zbo39 h hk, Option.bind_some, zhc39 h v (by omega), Option.bind_some, zWhy_1]
    cases (s 5 0).testBit (s 1 k)
    · rw [if_pos (show zB false = 0 from rfl), zma39 h v (by omega) hn, Option.bind_some, zl_6, zl_10, zN_add, zma39 h v (by omega) hn, Option.bind_some]
      by_cases h1 : s 3 k < 100
      · rw [if_neg (by rw [zE_none]; omega), Option.bind_some]
        simp only [if_pos h1]
        rfl
      · rw [if_pos ((zE_none _).mpr (by omega))]
        by_cases h2 : s 3 (10 + s 1 k) < 100
        · rw [if_neg (by rw [zE_none]; omega), Option.bind_some]
          simp only [if_neg h1, if_pos h2]
          rfl
        · rw [if_pos ((zE_none _).mpr (by omega)), Option.bind_some]
          simp only [if_neg h1, if_neg h2]
          rfl
    · rfl
  · have h1 := ht.2.1 rfl
    rw [if_neg (by decide), if_neg (by decide), if_pos (by decide), ht' (Or.inr (Or.inl rfl))]
    unfold Ga_whyNotChange_39
    rw [zma39 h v (by omega) hn, Option.bind_some, zma39 h v (by omega) hn, Option.bind_some, zbo39 h hk, Option.bind_some, zbo39 h h1, Option.bind_some, zl_6, zWhy_2]
    have hb2 := vs_p v t h1
    have e1 : (zN k = zN t) ↔ k = t := zN_inj (by omega) (by omega)
    have e2 : (zN (s 1 k) = zN (s 1 t)) ↔ s 1 k = s 1 t := zN_inj (by omega) (by omega)
    by_cases h2 : s 3 k < 100
    · rw [if_neg (by rw [zE_none]; omega)]
      by_cases h3 : k = t
      · rw [if_pos (e1.mpr h3), Option.bind_some]
        simp only [if_pos h2, if_pos h3]
        rfl
      · rw [if_neg (fun q => h3 (e1.mp q))]
        by_cases h4 : s 1 k = s 1 t
        · rw [if_pos (e2.mpr h4), Option.bind_some]
          simp only [if_pos h2, if_neg h3, if_pos h4]
          rfl
        · rw [if_neg (fun q => h4 (e2.mp q)), Option.bind_some]
          simp only [if_pos h2, if_neg h3, if_neg h4]
          rfl
    · rw [if_pos ((zE_none _).mpr (by omega))]
      by_cases h5 : s 3 t < 100
      · rw [if_neg (by rw [zE_none]; omega)]
        by_cases h3 : k = t
        · rw [if_pos (e1.mpr h3), Option.bind_some]
          simp only [if_neg h2, if_pos h5, if_pos h3]
          rfl
        · rw [if_neg (fun q => h3 (e1.mp q))]
          by_cases h4 : s 1 k = s 1 t
          · rw [if_pos (e2.mpr h4), Option.bind_some]
            simp only [if_neg h2, if_pos h5, if_neg h3, if_pos h4]
            rfl
          · rw [if_neg (fun q => h4 (e2.mp q)), Option.bind_some]
            simp only [if_neg h2, if_pos h5, if_neg h3, if_neg h4]
            rfl
      · rw [if_pos ((zE_none _).mpr (by omega)), Option.bind_some]
        simp only [if_neg h2, if_neg h5]
        rfl
  · rw [if_neg (by decide), if_neg (by decide), if_neg (by decide), if_pos (by decide), zma39 h v (by omega) hn, Option.bind_some, zl_6, zWhy_3]
    by_cases h2 : s 3 k < 100
    · rw [if_neg (by rw [zE_none]; omega)]
      simp only [if_pos h2]
      rfl
    · rw [if_pos ((zE_none _).mpr (by omega))]
      simp only [if_neg h2]
      rfl
  · rfl
  · rw [if_neg (by decide), if_neg (by decide), if_neg (by decide), if_neg (by decide), if_neg (by decide), if_pos (by decide), gc39_day h, zl_99, zWhy_5]
    have := vs_day v
    have e := zN_lt (a := s 5 1) (b := 99) (by omega) (by decide)
    by_cases h2 : s 5 1 < 99
    · rw [if_pos (e.mpr h2)]
      simp only [if_pos h2]
      rfl
    · rw [if_neg (fun q => h2 (e.mp q))]
      simp only [if_neg h2]
      rfl
theorem zsit39 {I : zI} {s : zA} (h : GC 39 I s) (v : VS s) {n k : Nat} (hk : k < 8) (hn : 12 < n) : ∃ I', Ga_sitDown_39 n (zN k) I = some I' ∧ (∀ b, b ≠ 45 → b ≠ 47 → I' b = I b) ∧ (∀ m, m < 12 → I' 45 m = if m = s 3 (10 + s 1 k) then zN k else if m = s 3 k then zN (10 + s 1 k) else I 45 m) ∧ (∀ m, m < 12 → I' 47 m = if m = s 3 k then zN 9 else I 47 m) := by
  have hb := vs_p v k hk
  have o1 := zPl_o (vs_pl v) (show k < 20 by omega)
  have o2 := zPl_o (vs_pl v) (show 10 + s 1 k < 20 by omega)
  unfold Ga_sitDown_39
  rw [zbo39 h hk, Option.bind_some, zma39 h v (by omega) hn, Option.bind_some, zl_10, zN_add, zma39 h v (by omega) hn, Option.bind_some, zl_6, zl_9]
  by_cases h1 : s 3 k < 100
  · rw [if_neg (by rw [zE_none]; omega), zE_lt h1]
    unfold Ga_putOn_39
    rw [zl_10, zN_add, zput_44 _ I (by omega), Option.bind_some, zput_46 _ _ (by omega), Option.bind_some, Option.bind_some, Option.bind_some]
    by_cases h2 : s 3 (10 + s 1 k) < 100
    · rw [if_neg (by rw [zE_none]; omega), zE_lt h2]
      unfold Ga_putWith_39
      rw [zput_44 _ _ (by omega), Option.bind_some, Option.bind_some]
      refine ⟨_, rfl, fun b g1 g2 => ?_, fun m hm => ?_, fun m hm => ?_⟩
      · rw [zUp_ne g1, zUp_ne g2, zUp_ne g1]
      · rw [zUp_at, zUp_ne (by decide), zUp_at]
      · rw [zUp_ne (by decide), zUp_at, zUp_ne (by decide)]
    · rw [if_pos ((zE_none _).mpr (by omega))]
      refine ⟨_, rfl, fun b g1 g2 => ?_, fun m hm => ?_, fun m hm => ?_⟩
      · rw [zUp_ne g2, zUp_ne g1]
      · rw [if_neg (by omega), zUp_ne (by decide), zUp_at]
      · rw [zUp_at, zUp_ne (by decide)]
  · rw [if_pos ((zE_none _).mpr (by omega)), Option.bind_some]
    by_cases h2 : s 3 (10 + s 1 k) < 100
    · rw [if_neg (by rw [zE_none]; omega), zE_lt h2]
      unfold Ga_putWith_39
      rw [zput_44 _ _ (by omega), Option.bind_some, Option.bind_some]
      refine ⟨_, rfl, fun b g1 g2 => ?_, fun m hm => ?_, fun m hm => ?_⟩
      · rw [zUp_ne g1]
      · rw [zUp_at]
        by_cases g : m = s 3 (10 + s 1 k)
        · rw [if_pos g, if_pos g]
        · rw [if_neg g, if_neg g, if_neg (by omega)]
      · rw [zUp_ne (by decide), if_neg (by omega)]
    · rw [if_pos ((zE_none _).mpr (by omega))]
      refine ⟨_, rfl, fun b g1 g2 => rfl, fun m hm => ?_, fun m hm => ?_⟩
      · rw [if_neg (by omega), if_neg (by omega)]
      · rw [if_neg (by omega)]
theorem zswap39 {I : zI} {s : zA} (h : GC 39 I s) (v : VS s) {n k t : Nat} (hk : k < 8) (ht : t < 8) (hn : 12 < n) : ∃ I', Ga_swap_39 n (zN k) (zN t) I = some I' ∧ (∀ b, b ≠ 45 → I' b = I b) ∧ (∀ m, m < 12 → I' 45 m = if m = s 3 t then zN k else if m = s 3 k then zN t else I 45 m) := by
  have o1 := zPl_o (vs_pl v) (show k < 20 by omega)
  have o2 := zPl_o (vs_pl v) (show t < 20 by omega)
  unfold Ga_swap_39
  rw [zma39 h v (by omega) hn, Option.bind_some, zma39 h v (by omega) hn, Option.bind_some, zl_6]
  by_cases h1 : s 3 k < 100
  · rw [if_neg (by rw [zE_none]; omega), zE_lt h1]
    unfold Ga_putWith_39
    rw [zput_44 _ I (by omega), Option.bind_some, Option.bind_some, Option.bind_some]
    by_cases h2 : s 3 t < 100
    · rw [if_neg (by rw [zE_none]; omega), zE_lt h2, zput_44 _ _ (by omega), Option.bind_some, Option.bind_some]
      refine ⟨_, rfl, fun b g1 => ?_, fun m hm => ?_⟩
      · rw [zUp_ne g1, zUp_ne g1]
      · rw [zUp_at, zUp_at]
    · rw [if_pos ((zE_none _).mpr (by omega))]
      refine ⟨_, rfl, fun b g1 => ?_, fun m hm => ?_⟩
      · rw [zUp_ne g1]
      · rw [if_neg (by omega), zUp_at]
  · rw [if_pos ((zE_none _).mpr (by omega)), Option.bind_some]
    by_cases h2 : s 3 t < 100
    · rw [if_neg (by rw [zE_none]; omega), zE_lt h2]
      unfold Ga_putWith_39
      rw [zput_44 _ _ (by omega), Option.bind_some, Option.bind_some]
      refine ⟨_, rfl, fun b g1 => ?_, fun m hm => ?_⟩
      · rw [zUp_ne g1]
      · rw [zUp_at]
        by_cases g : m = s 3 t
        · rw [if_pos g, if_pos g]
        · rw [if_neg g, if_neg g, if_neg (by omega)]
    · rw [if_pos ((zE_none _).mpr (by omega))]
      refine ⟨_, rfl, fun b g1 => rfl, fun m hm => ?_⟩
      rw [if_neg (by omega), if_neg (by omega)]
theorem zendL39 {s : zA} (v : VS s) : ∀ (j k n : Nat) (I : zI), k + j = 12 → j < n → (∀ m, m < 12 → I 45 m = zE (if m < k then zEv2 s m else s 2 m)) → (∀ m, m < 12 → I 47 m = zN (if m < k then zEv4 s m else s 4 m)) → ∃ I', Ga_endDay_39_L12 n (zN k) I = some I' ∧ (∀ b, b ≠ 45 → b ≠ 47 → I' b = I b) ∧ (∀ m, m < 12 → I' 45 m = zE (zEv2 s m)) ∧ (∀ m, m < 12 → I' 47 m = zN (zEv4 s m)) := by
  intro j
  induction j with
  | zero =>
    intro k n I hk hn h1 h2
    obtain ⟨n, rfl⟩ : ∃ e, n = e + 1 := ⟨n - 1, by omega⟩
    rw [Ga_endDay_39_L12, zl_12, if_pos ((zN_le (by decide) (by omega)).mpr (by omega))]
    refine ⟨I, rfl, fun b _ _ => rfl, fun m hm => ?_, fun m hm => ?_⟩
    · rw [h1 m hm, if_pos (by omega)]
    · rw [h2 m hm, if_pos (by omega)]
  | succ j ih =>
    intro k n I hk hn h1 h2
    obtain ⟨n, rfl⟩ : ∃ e, n = e + 1 := ⟨n - 1, by omega⟩
    have hc := zPl_c (vs_pl v) (show k < 12 by omega)
    have hf := vs_f9 v k (by omega)
    rw [Ga_endDay_39_L12, zl_12, if_neg (by rw [zN_le (by decide) (by omega)]; omega), zat_44 I (by omega), Option.bind_some, h1 k (by omega), if_neg (Nat.lt_irrefl k)]
    by_cases g : 10 ≤ s 2 k ∧ s 2 k < 100
    · have hfr := vs_fr v k (by omega) g.1 g.2
      rw [if_neg (by rw [zl_10, zE_ltk (by decide)]; omega), zat_46 I (by omega), Option.bind_some, h2 k (by omega), if_neg (Nat.lt_irrefl k), zl_1, zN_sub hfr.1, zput_46 _ _ (by omega), Option.bind_some]
      by_cases g2 : s 4 k ≤ 1
      · rw [if_pos (by rw [zl_0, zN_le (by omega) (by decide)]; omega), Option.bind_some, zput_44 _ _ (by omega), Option.bind_some, Option.bind_some, zN_add]
        refine Exists.elim (ih (k + 1) n (zUp (zUp I 47 k (zN (s 4 k - 1))) 45 k (-6)) (by omega) (by omega) (fun m hm => ?_) (fun m hm => ?_)) (fun I' hq => ?_)
        · rw [zUp_at]
          by_cases q : m = k
          · rw [if_pos q, if_pos (by omega), q]
            unfold zEv2
            rw [if_pos ⟨g.1, g.2, g2⟩]
            rfl
          · rw [if_neg q, zUp_ne (by decide), h1 m hm]
            by_cases q2 : m < k
            · rw [if_pos q2, if_pos (by omega)]
            · rw [if_neg q2, if_neg (by omega)]
        · rw [zUp_ne (by decide), zUp_at]
          by_cases q : m = k
          · rw [if_pos q, if_pos (by omega), q]
            unfold zEv4
            rw [if_pos g]
          · rw [if_neg q, h2 m hm]
            by_cases q2 : m < k
            · rw [if_pos q2, if_pos (by omega)]
            · rw [if_neg q2, if_neg (by omega)]
        · obtain ⟨e1, e2, e3, e4⟩ := hq
          exact ⟨I', e1, fun b b1 b2 => by rw [e2 b b1 b2, zUp_ne b1, zUp_ne b2], e3, e4⟩
      · rw [if_neg (by rw [zl_0, zN_le (by omega) (by decide)]; omega), zat_44 _ (by omega), Option.bind_some, Option.bind_some, zput_44 _ _ (by omega), Option.bind_some, Option.bind_some, zN_add]
        refine Exists.elim (ih (k + 1) n (zUp (zUp I 47 k (zN (s 4 k - 1))) 45 k (zUp I 47 k (zN (s 4 k - 1)) 45 k)) (by omega) (by omega) (fun m hm => ?_) (fun m hm => ?_)) (fun I' hq => ?_)
        · rw [zUp_at, zUp_ne (by decide)]
          by_cases q : m = k
          · rw [if_pos q, if_pos (by omega), q, h1 k (by omega), if_neg (Nat.lt_irrefl k)]
            unfold zEv2
            rw [if_neg (fun z => g2 z.2.2)]
          · rw [if_neg q, h1 m hm]
            by_cases q2 : m < k
            · rw [if_pos q2, if_pos (by omega)]
            · rw [if_neg q2, if_neg (by omega)]
        · rw [zUp_ne (by decide), zUp_at]
          by_cases q : m = k
          · rw [if_pos q, if_pos (by omega), q]
            unfold zEv4
            rw [if_pos g]
          · rw [if_neg q, h2 m hm]
            by_cases q2 : m < k
            · rw [if_pos q2, if_pos (by omega)]
            · rw [if_neg q2, if_neg (by omega)]
        · obtain ⟨e1, e2, e3, e4⟩ := hq
          exact ⟨I', e1, fun b b1 b2 => by rw [e2 b b1 b2, zUp_ne b1, zUp_ne b2], e3, e4⟩
    · rw [if_pos (by rw [zl_10, zE_ltk (by decide)]; omega), Option.bind_some, zl_1, zN_add]
      refine ih (k + 1) n I (by omega) (by omega) (fun m hm => ?_) (fun m hm => ?_)
      · rw [h1 m hm]
        by_cases q : m = k
        · rw [if_neg (by omega), if_pos (by omega), q]
          unfold zEv2
          rw [if_neg (fun z => g ⟨z.1, z.2.1⟩)]
        · by_cases q2 : m < k
          · rw [if_pos q2, if_pos (by omega)]
          · rw [if_neg q2, if_neg (by omega)]
      · rw [h2 m hm]
        by_cases q : m = k
        · rw [if_neg (by omega), if_pos (by omega), q]
          unfold zEv4
          rw [if_neg g]
        · by_cases q2 : m < k
          · rw [if_pos q2, if_pos (by omega)]
          · rw [if_neg q2, if_neg (by omega)]
theorem zcar39 {I : zI} {s : zA} (h : GC 39 I s) (v : VS s) {n a k t : Nat} {t' : Int32} (ha : a < 6) (hk : k < 8) (ht : zTok a t) (ht' : a = 0 ∨ a = 2 ∨ a = 4 → t' = zN t) (hn : 12 < n) (hw : zWhy s a k t = 0) : ∃ I', Ga_carryOut_39 n (zN a) (zN k) t' I = some I' ∧ GC 39 I' (zDo s a k t) ∧ (∀ b, b ≠ 39 → b ≠ 43 → b ≠ 45 → b ≠ 47 → I' b = I b) ∧ (∀ i, i ≠ 6 → i ≠ 7 → I' 39 i = I 39 i) := by
  unfold Ga_carryOut_39
  have hb := vs_p v k hk
  have hpl := vs_pl v
  rcases z6 ha with rfl | rfl | rfl | rfl | rfl | rfl
  · have h1 := ht.1 rfl
    rw [if_pos (by decide), ht' (Or.inl rfl)]
    unfold Ga_standAt_39
    rw [zput_42 _ I hk, Option.bind_some, Option.bind_some]
    exact ⟨_, rfl, GC_up1 (a := 39) h, fun b b1 b2 b3 b4 => zUp_ne b2, fun i _ _ => by rw [zUp_ne (by decide)]⟩
  · rw [if_neg (by decide), if_pos (by decide)]
    obtain ⟨I', e1, e2, e3, e4⟩ := zsit39 h v hk hn
    rw [e1, Option.bind_some]
    refine ⟨I', rfl, GC_ps (a := 39) h (fun b b1 b2 => e2 b b1 b2) (fun m hm => ?_) (fun m hm => ?_), fun b b1 b2 b3 b4 => e2 b b3 b4, fun i _ _ => by rw [e2 39 (by decide) (by decide)]⟩
    · show I' 45 m = _
      rw [e3 m hm]
      have i1 := zPl_i hpl hm (show k < 20 by omega)
      have i2 := zPl_i hpl hm (show 10 + s 1 k < 20 by omega)
      unfold zX2
      by_cases g1 : m = s 3 (10 + s 1 k)
      · rw [if_pos g1, if_neg (by have := i2.mpr g1.symm; omega), if_pos (i2.mpr g1.symm), zE_lt (by omega)]
      · rw [if_neg g1]
        by_cases g2 : m = s 3 k
        · rw [if_pos g2, if_pos (i1.mpr g2.symm), zE_lt (by omega)]
        · rw [if_neg g2, if_neg (fun q => g2 (i1.mp q).symm), if_neg (fun q => g1 (i2.mp q).symm), gc39_2 h hm]
    · show I' 47 m = _
      rw [e4 m hm]
      by_cases g1 : m = s 3 k
      · rw [if_pos g1, if_pos g1]
      · rw [if_neg g1, if_neg g1, gc39_4 h hm]
  · have h1 := ht.2.1 rfl
    rw [if_neg (by decide), if_neg (by decide), if_pos (by decide), ht' (Or.inr (Or.inl rfl))]
    obtain ⟨I', e1, e2, e3⟩ := zswap39 h v hk h1 hn
    rw [e1, Option.bind_some]
    refine ⟨I', rfl, GC_ps (a := 39) h (fun b b1 b2 => e2 b b1) (fun m hm => ?_) (fun m hm => ?_), fun b b1 b2 b3 b4 => e2 b b3, fun i _ _ => by rw [e2 39 (by decide)]⟩
    · show I' 45 m = _
      rw [e3 m hm]
      have i1 := zPl_i hpl hm (show k < 20 by omega)
      have i2 := zPl_i hpl hm (show t < 20 by omega)
      have hkt : k ≠ t := by
        intro q
        unfold zWhy at hw
        simp [q] at hw
        split at hw <;> (try split at hw) <;> omega
      unfold zX2
      by_cases g1 : m = s 3 t
      · rw [if_pos g1, if_neg (by have := i2.mpr g1.symm; omega), if_pos (i2.mpr g1.symm), zE_lt (by omega)]
      · rw [if_neg g1]
        by_cases g2 : m = s 3 k
        · rw [if_pos g2, if_pos (i1.mpr g2.symm), zE_lt (by omega)]
        · rw [if_neg g2, if_neg (fun q => g2 (i1.mp q).symm), if_neg (fun q => g1 (i2.mp q).symm), gc39_2 h hm]
    · show I' 47 m = _
      rw [e2 47 (by decide), gc39_4 h hm]
  · have hs : s 3 k < 100 := by
      unfold zWhy at hw
      simp at hw
      exact hw
    have o1 := zPl_o hpl (show k < 20 by omega)
    rw [if_neg (by decide), if_neg (by decide), if_neg (by decide), if_pos (by decide), zma39 h v (by omega) hn, Option.bind_some, zE_lt hs]
    unfold Ga_makeNowhere_39
    rw [zput_44 _ I (by omega), Option.bind_some, Option.bind_some]
    refine ⟨_, rfl, GC_ps (a := 39) h (fun b b1 b2 => zUp_ne b1) (fun m hm => ?_) (fun m hm => ?_), fun b b1 b2 b3 b4 => zUp_ne b3, fun i _ _ => by rw [zUp_ne (by decide)]⟩
    · show zUp I 45 (s 3 k) (-6) 45 m = _
      rw [zUp_at]
      unfold zG2
      by_cases g1 : m = s 3 k
      · rw [if_pos g1, if_pos g1]
        rfl
      · rw [if_neg g1, if_neg g1, gc39_2 h hm]
        by_cases g2 : s 2 m = 100
        · rw [if_pos g2, g2]
        · rw [if_neg g2]
    · show zUp I 45 (s 3 k) (-6) 47 m = _
      rw [zUp_ne (by decide), gc39_4 h hm]
  · have h1 := ht.2.2 rfl
    rw [if_neg (by decide), if_neg (by decide), if_neg (by decide), if_neg (by decide), if_pos (by decide), ht' (Or.inr (Or.inr rfl)), gc39_cu h, zl_1, zN_shl _ (by omega), zN_xor]
    exact ⟨_, rfl, GC_sl6 (a := 39) h, fun b b1 b2 b3 b4 => zUp_ne b1, fun i i1 _ => zUp_nj i1⟩
  · rw [if_neg (by decide), if_neg (by decide), if_neg (by decide), if_neg (by decide), if_neg (by decide), if_pos (by decide)]
    unfold Ga_endDay_39
    rw [gc39_day h, zl_1, zN_add]
    obtain ⟨I', e1, e2, e3, e4⟩ := zendL39 v 12 0 n (zUp I 39 7 (zN (s 5 1 + 1))) rfl hn (fun m hm => by rw [zUp_ne (by decide), gc39_2 h hm, if_neg (by omega)]) (fun m hm => by rw [zUp_ne (by decide), gc39_4 h hm, if_neg (by omega)])
    rw [show (0 : Int32) = zN 0 from rfl, e1, Option.bind_some, Option.bind_some]
    refine ⟨I', rfl, ?_, fun b b1 b2 b3 b4 => by rw [e2 b b3 b4, zUp_ne b1], fun i _ i2 => by rw [e2 39 (by decide) (by decide), zUp_nj i2]⟩
    have g := GC_ps (a := 39) (c := zEv2 s) (o := zEv3 s) (f := zEv4 s) (GC_sl7 (a := 39) (v := s 5 1 + 1) h) (I' := I') (fun b b1 b2 => e2 b b1 b2) e3 e4
    exact g
