/-! long numbers -/
def zJ (k : Nat) : Int64 := Int64.ofNat k
theorem zJ_add (a b : Nat) : zJ a + zJ b = zJ (a + b) := (Int64.ofNat_add a b).symm
theorem zJ_mul (a b : Nat) : zJ a * zJ b = zJ (a * b) := (Int64.ofNat_mul a b).symm
theorem zJ_sub {a b : Nat} (h : b ≤ a) : zJ a - zJ b = zJ (a - b) := (Int64.ofNat_sub a b h).symm
theorem zJ_div {a b : Nat} (ha : a < 9223372036854775808) (hb : b < 9223372036854775808) : zJ a / zJ b = zJ (a / b) := (Int64.ofNat_div ha hb).symm
theorem zJ_rem {a b : Nat} (ha : a < 9223372036854775808) (hb : b < 9223372036854775808) : zLrem (zJ a) (zJ b) = zJ (a % b) := by
  unfold zLrem
  rw [zJ_div ha hb, zJ_mul, zJ_sub (Nat.div_mul_le_self a b)]
  congr 1
  have := Nat.mod_add_div a b
  rw [Nat.mul_comm] at this
  omega
theorem zJ_toInt {a : Nat} (h : a < 9223372036854775808) : (zJ a).toInt = a := Int64.toInt_ofNat_of_lt h
theorem zJ_inj {a b : Nat} (ha : a < 9223372036854775808) (hb : b < 9223372036854775808) : (zJ a = zJ b) ↔ a = b := by
  rw [← Int64.toInt_inj, zJ_toInt ha, zJ_toInt hb]
  omega
theorem zJ_lt {a b : Nat} (ha : a < 9223372036854775808) (hb : b < 9223372036854775808) : (zJ a < zJ b) ↔ a < b := Int64.ofNat_lt_iff_lt ha hb
theorem zJ_of (k : Nat) (h : k < 2147483648) : Int32.toInt64 (zN k) = zJ k := Int32.toInt64_ofNat' (by show (k : Int) ≤ 2147483647; omega)
theorem zJ_to (k : Nat) : Int64.toInt32 (zJ k) = zN k := Int64.toInt32_ofNat'
/-! sights -/
theorem GM_sight {I : zI} {s : zA} {i a k d : Nat} (h : GM I s) (hk : k < 8) (hd : d < 2) : GM (zUp (zUp (zUp I 79 i (zN a)) 80 i (zN k)) 81 i (zN d)) (zUp s 6 i ((a * 8 + k) * 2 + d)) := by
  obtain ⟨g0, g1, g2, g3, g4, g5, g6, g7, g8, g9, ga⟩ := h
  have e1 : ((a * 8 + k) * 2 + d) / 2 / 8 = a := by omega
  have e2 : ((a * 8 + k) * 2 + d) / 2 % 8 = k := by omega
  have e3 : ((a * 8 + k) * 2 + d) % 2 = d := by omega
  refine ⟨fun j hj => ?_, fun j hj => ?_, fun j hj => ?_, fun j hj => ?_, fun j hj => ?_, fun j hj => ?_, fun j hj => ?_, fun j hj => ?_, ?_, ?_, ?_⟩
  · exact g0 j hj
  · exact g1 j hj
  · exact g2 j hj
  · exact g3 j hj
  · exact g4 j hj
  · rw [zUp_ne (by decide), zUp_ne (by decide), zUp_at, zUp_at]
    by_cases z : j = i
    · rw [if_pos z, if_pos z, e1]
    · rw [if_neg z, if_neg z]
      exact g5 j hj
  · rw [zUp_ne (by decide), zUp_at, zUp_at]
    by_cases z : j = i
    · rw [if_pos z, if_pos z, e2]
    · rw [if_neg z, if_neg z, zUp_ne (by decide)]
      exact g6 j hj
  · rw [zUp_at, zUp_at]
    by_cases z : j = i
    · rw [if_pos z, if_pos z, e3]
    · rw [if_neg z, if_neg z, zUp_ne (by decide), zUp_ne (by decide)]
      exact g7 j hj
  · exact g8
  · exact g9
  · exact ga
theorem VS_sight {s : zA} (v : VS s) {i w c : Nat} (hw : w < 976) (hc : c ≤ 8) : VS (zUp (zUp s 6 i w) 5 2 c) := by
  obtain ⟨g0, g1, g2, g3, g4, g5, g6, g7, g8, g9⟩ := v
  refine ⟨g0, g1, g2, g3, g4, g5, g6, hc, fun j hj => ?_, g9⟩
  rw [zUp_ne (by decide), zUp_at]
  split
  · exact hw
  · exact g8 j hj
theorem c_seen {I : zI} (h : Rel I) (a0 a1 a2 : Int32) : CO (BM_seen a0 a1 a2 I) (Mo_seen a0 a1 a2) := by
  rcases zW_c 0 60 a0 (by decide) (by decide) with ⟨a, -, ha, rfl, ea⟩ | ⟨ea, -⟩
  · rcases zW_c 0 7 a1 (by decide) (by decide) with ⟨k, -, hk, rfl, eb⟩ | ⟨eb, -⟩
    · obtain ⟨⟨s, hc, hm, v⟩, hr⟩ := id h
      have h8 := vs_cnt v
      by_cases hq : s 5 2 < 8
      · have hx : ∃ d, d < 2 ∧ (if a2 = 0 then some (0 : Int32) else some 1) = some (zN d) := by
          by_cases z : a2 = 0
          · exact ⟨0, by decide, by rw [if_pos z]; rfl⟩
          · exact ⟨1, by decide, by rw [if_neg z]; rfl⟩
        obtain ⟨d, d1, d2⟩ := hx
        have k1 : BFr I (zUp (zUp I 12 (s 5 2) (zN ((a * 8 + k) * 2 + d))) 2 5 (zN (s 5 2 + 1))) := fun c hc => by rw [zUp_ne (by omega), zUp_ne (by omega)]
        have hm1 := GM_bf k1 hm
        have e10 : ∀ (x y z : Int32) (p q r : Nat), zUp (zUp (zUp (zUp (zUp I 12 (s 5 2) (zN ((a * 8 + k) * 2 + d))) 2 5 (zN (s 5 2 + 1))) 79 p x) 80 q y) 81 r z 73 10 = zN (s 5 2) := fun x y z p q r => by rw [zUp_ne (by decide), zUp_ne (by decide), zUp_ne (by decide), gm_cnt hm1]
        have e11 : ∀ (x y : Int32) (p q : Nat), zUp (zUp (zUp (zUp I 12 (s 5 2) (zN ((a * 8 + k) * 2 + d))) 2 5 (zN (s 5 2 + 1))) 79 p x) 80 q y 73 10 = zN (s 5 2) := fun x y p q => by rw [zUp_ne (by decide), zUp_ne (by decide), gm_cnt hm1]
        have e12 : ∀ (x : Int32) (p : Nat), zUp (zUp (zUp I 12 (s 5 2) (zN ((a * 8 + k) * 2 + d))) 2 5 (zN (s 5 2 + 1))) 79 p x 73 10 = zN (s 5 2) := fun x p => by rw [zUp_ne (by decide), gm_cnt hm1]
        refine ⟨zN (s 5 2 + 1), zUp (zUp I 12 (s 5 2) (zN ((a * 8 + k) * 2 + d))) 2 5 (zN (s 5 2 + 1)), zUp (zUp (zUp (zUp (zUp (zUp I 12 (s 5 2) (zN ((a * 8 + k) * 2 + d))) 2 5 (zN (s 5 2 + 1))) 79 (s 5 2) (zN a)) 80 (s 5 2) (zN k)) 81 (s 5 2) (zN d)) 73 10 (zN (s 5 2 + 1)), ?_, ?_, Rel_mk (s := zUp (zUp s 6 (s 5 2) ((a * 8 + k) * 2 + d)) 5 2 (s 5 2 + 1)) hr (GC_sl5 (a := 2) (GC_up6 (a := 2) hc)) (GM_sl10 (GM_sight hm1 (by omega) d1)) (VS_sight v (by omega) (by omega)) k1 ((((RF_up (by decide) (by decide) (by decide) (by decide)).tr (RF_up (by decide) (by decide) (by decide) (by decide))).tr (RF_up (by decide) (by decide) (by decide) (by decide))).tr (RF_sl (by decide)))⟩
        · unfold BM_seen
          rw [zbi_0_60, ea, Option.bind_some, if_neg (by decide), zbi_0_7, eb, Option.bind_some, if_neg (by decide), gc2_cnt hc, if_pos (by rw [zl_8, zN_lt (by omega) (by decide)]; omega)]
          unfold Ga_addSight_2
          rw [d2, Option.bind_some, gc2_cnt hc, zl_8, zl_2, zN_mul, zN_add, zN_mul, zN_add, zput_11 _ I (by omega), Option.bind_some, zUp_ne (by decide), gc2_cnt hc, zl_1, zN_add, Option.bind_some, zUp_eq]
        · unfold Mo_seen
          have i8 := (zN_in (show s 5 2 < 2147483648 by omega) (n := 8)).mpr hq
          rw [zmi_0_60, ea, Option.bind_some, if_neg (by decide), zmi_0_7, eb, Option.bind_some, if_neg (by decide)]
          simp only [gm_cnt hm1, zN_tn (show s 5 2 < 2147483648 by omega), e10, e11, e12, d2]
          rw [if_neg (by rw [zl_8, zN_inj (by omega) (by decide)]; omega), if_pos i8, if_pos i8, Option.bind_some, if_pos i8, zUp_eq, zl_1, zN_add]
      · refine CO_bad h (r := -4) ?_ ?_
        · unfold BM_seen
          rw [zbi_0_60, ea, Option.bind_some, if_neg (by decide), zbi_0_7, eb, Option.bind_some, if_neg (by decide), gc2_cnt hc, if_neg (by rw [zl_8, zN_lt (by omega) (by decide)]; omega)]
        · unfold Mo_seen
          rw [zmi_0_60, ea, Option.bind_some, if_neg (by decide), zmi_0_7, eb, Option.bind_some, if_neg (by decide), gm_cnt hm, if_pos (by rw [zl_8, zN_inj (by omega) (by decide)]; omega)]
    · refine CO_bad h (r := -2) ?_ ?_
      · unfold BM_seen
        rw [zbi_0_60, ea, Option.bind_some, if_neg (by decide), zbi_0_7, eb, Option.bind_some, if_pos (by decide)]
      · unfold Mo_seen
        rw [zmi_0_60, ea, Option.bind_some, if_neg (by decide), zmi_0_7, eb, Option.bind_some, if_pos (by decide)]
  · refine CO_bad h (r := -2) ?_ ?_
    · unfold BM_seen
      rw [zbi_0_60, ea, Option.bind_some, if_pos (by decide)]
    · unfold Mo_seen
      rw [zmi_0_60, ea, Option.bind_some, if_pos (by decide)]
theorem VS_cnt0 {s : zA} (v : VS s) : VS (zUp s 5 2 0) := by
  obtain ⟨g0, g1, g2, g3, g4, g5, g6, g7, g8, g9⟩ := v
  exact ⟨g0, g1, g2, g3, g4, g5, g6, Nat.zero_le 8, g8, g9⟩
theorem c_clear {I : zI} (h : Rel I) : CO (BM_clear I) Mo_clear := by
  obtain ⟨⟨s, hc, hm, v⟩, hr⟩ := h
  have k1 : BFr I (zUp I 2 5 (zN 0)) := fun c hc => zUp_ne (by omega)
  refine ⟨zN (s 5 2), zUp I 2 5 (zN 0), zUp (zUp I 2 5 (zN 0)) 73 10 (zN 0), ?_, ?_, Rel_mk (s := zUp s 5 2 0) hr (GC_sl5 (a := 2) hc) (GM_sl10 (GM_bf k1 hm)) (VS_cnt0 v) k1 (RF_sl (by decide))⟩
  · unfold BM_clear Ga_dropSights_2
    rw [Option.bind_some, gc2_cnt hc]
    rfl
  · unfold Mo_clear
    rw [gm_cnt (GM_bf k1 hm)]
    rfl
/-! seasons -/
def zLot (l : Nat) : Nat := if l < 3 then 0 else if l < 5 then 1 else if l = 5 then 2 else if l = 6 then 3 else 5
def zDt (l z : Nat) : Nat := if zLot l = 0 then z % 10 else z % 8
def zDr (s : zA) (k l z : Nat) : zA := if l = 6 ∧ z % 8 ≠ 0 then s else if zWhy s (zLot l) k (zDt l z) = 0 then zDo s (zLot l) k (zDt l z) else s
theorem zLot_6 (l : Nat) : zLot l < 6 := by
  unfold zLot
  repeat' split
  all_goals decide
theorem zDt_ok (l z : Nat) : zTok (zLot l) (zDt l z) := by
  unfold zDt
  refine ⟨fun h => ?_, fun h => ?_, fun h => ?_⟩
  · rw [if_pos h]
    omega
  · rw [if_neg (by omega)]
    omega
  · rw [if_neg (by omega)]
    omega
theorem VS_dr {s : zA} (v : VS s) {k l z : Nat} (hk : k < 8) : VS (zDr s k l z) := by
  unfold zDr
  split
  · exact v
  · split
    · rename_i h
      exact VS_do v (zLot_6 l) hk (zDt_ok l z) h
    · exact v
theorem zDr_0 (s : zA) (k l z : Nat) : zDr s k l z 0 = s 0 ∧ zDr s k l z 6 = s 6 ∧ zDr s k l z 5 2 = s 5 2 := by
  unfold zDr
  split
  · exact ⟨rfl, rfl, rfl⟩
  · split
    · exact ⟨zDo_0 _ _ _ _, zDo_6 _ _ _ _, zDo_52 _ _ _ _⟩
    · exact ⟨rfl, rfl, rfl⟩
theorem z8 {a : Nat} (h : a < 8) : a = 0 ∨ a = 1 ∨ a = 2 ∨ a = 3 ∨ a = 4 ∨ a = 5 ∨ a = 6 ∨ a = 7 := by omega
theorem zclot {l : Nat} (I : zI) (h : l < 8) : Co_actByLot (zN l) I = some (zN (zLot l)) := by
  unfold Co_actByLot
  rcases z8 h with rfl | rfl | rfl | rfl | rfl | rfl | rfl | rfl <;> rfl
theorem zcdraw {I : zI} {s : zA} (h : GC 39 I s) (v : VS s) {n k l z : Nat} (hk : k < 8) (hl : l < 8) (hz : z < 100000) (hn : 12 < n) : ∃ I', Co_drawAct n (zN k) (zN l) (zN z) I = some I' ∧ GC 39 I' (zDr s k l z) ∧ (∀ b, b ≠ 39 → b ≠ 43 → b ≠ 45 → b ≠ 47 → I' b = I b) := by
  have ht : (if zN (zLot l) = (0 : Int32) then some (zRem (zN z) 10) else some (zRem (zN z) 8)) = some (zN (zDt l z)) := by
    unfold zDt
    have := zLot_6 l
    rw [zl_10, zl_8, zN_rem (by omega) (by decide), zN_rem (by omega) (by decide)]
    by_cases q : zLot l = 0
    · rw [if_pos (by rw [q]; rfl), if_pos q]
    · rw [if_neg (by rw [zl_0, zN_inj (by omega) (by decide)]; exact q), if_neg q]
  have body : ¬ (l = 6 ∧ z % 8 ≠ 0) → ∃ I', ((Co_actByLot (zN l) I).bind fun x397 => (if x397 = 0 then some (zRem (zN z) 10) else some (zRem (zN z) 8) : Option Int32).bind fun x399 => (Ga_whyNot_39 n x397 (zN k) x399 I).bind fun x400 => if x400 = 0 then (Ga_carryOut_39 n x397 (zN k) x399 I).bind fun I401 => some I401 else some I) = some I' ∧ GC 39 I' (zDr s k l z) ∧ (∀ b, b ≠ 39 → b ≠ 43 → b ≠ 45 → b ≠ 47 → I' b = I b) := by
    intro hne
    rw [zclot I hl, Option.bind_some, ht, Option.bind_some, zwhy39 h v (zLot_6 l) hk (zDt_ok l z) (fun _ => rfl) hn, Option.bind_some]
    unfold zDr
    rw [if_neg hne]
    have hw6 := zWhy_lt s (zLot l) k (zDt l z)
    by_cases q : zWhy s (zLot l) k (zDt l z) = 0
    · obtain ⟨I', e1, e2, e3, e4⟩ := zcar39 h v (zLot_6 l) hk (zDt_ok l z) (fun _ => rfl) hn q
      rw [if_pos (by rw [q]; rfl), if_pos q, e1, Option.bind_some]
      exact ⟨I', rfl, e2, e3⟩
    · rw [if_neg (by rw [zl_0, zN_inj (by omega) (by decide)]; exact q), if_neg q]
      exact ⟨I, rfl, h, fun _ _ _ _ _ => rfl⟩
  unfold Co_drawAct
  by_cases q6 : l = 6
  · subst q6
    rw [if_pos (by decide)]
    by_cases q8 : z % 8 = 0
    · rw [if_pos (by rw [zl_8, zN_rem (by omega) (by decide), q8]; rfl)]
      exact body (fun hh => hh.2 q8)
    · rw [if_neg (by rw [zl_8, zl_0, zN_rem (by omega) (by decide), zN_inj (by omega) (by decide)]; exact q8)]
      refine ⟨I, rfl, ?_, fun _ _ _ _ _ => rfl⟩
      unfold zDr
      rw [if_pos ⟨rfl, q8⟩]
      exact h
  · rw [if_neg (by rw [zl_6, zN_inj (by omega) (by decide)]; exact q6)]
    exact body (fun hh => q6 hh.1)
theorem zmlot {l : Nat} (h : l < 8) : (if (3 : Int32) ≤ zN l then if (5 : Int32) ≤ zN l then if zN l = 5 then some (2 : Int32) else if zN l = 6 then some 3 else some 5 else some 1 else some 0) = some (zN (zLot l)) := by
  rcases z8 h with rfl | rfl | rfl | rfl | rfl | rfl | rfl | rfl <;> rfl
theorem zmdraw {I : zI} {s : zA} (h : GM I s) (v : VS s) {n k l z : Nat} (hk : k < 8) (hl : l < 8) (hz : z < 100000) (hn : 12 < n) : ∃ I', Mo_seasonOne n (zN k) (zN l) (zN z) I = some I' ∧ GM I' (zDr s k l z) ∧ (∀ b, b ≠ 73 → b ≠ 75 → b ≠ 76 → b ≠ 77 → b ≠ 78 → b ≠ 86 → I' b = I b) ∧ (∀ i, i ≠ 5 → i ≠ 6 → I' 73 i = I 73 i) := by
  unfold Mo_seasonOne
  have h6 := zLot_6 l
  rw [zmlot hl, Option.bind_some]
  have hm : ∃ q, (q = 10 ∨ q = 8) ∧ (if zN (zLot l) = (0 : Int32) then some (10 : Int32) else some 8) = some (zN q) ∧ z % q = zDt l z := by
    unfold zDt
    by_cases q : zLot l = 0
    · exact ⟨10, Or.inl rfl, by rw [if_pos (by rw [q]; rfl)]; rfl, by rw [if_pos q]⟩
    · exact ⟨8, Or.inr rfl, by rw [if_neg (by rw [zl_0, zN_inj (by omega) (by decide)]; exact q)]; rfl, by rw [if_neg q]⟩
  obtain ⟨q, q1, q2, q3⟩ := hm
  rw [q2, Option.bind_some, if_pos (by rw [zl_0, zN_inj (by omega) (by decide)]; omega), zN_rem (by omega) (by omega), q3]
  have h3 : zLot l = 3 ↔ l = 6 := by
    rcases z8 hl with rfl | rfl | rfl | rfl | rfl | rfl | rfl | rfl <;> decide
  have hd : zLot l = 3 → zDt l z = z % 8 := by
    intro z3
    unfold zDt
    rw [if_neg (by omega)]
  have hlt : zDt l z < 100000 := by
    unfold zDt
    split <;> omega
  have hx : (if zN (zLot l) = (3 : Int32) then if zN (zDt l z) = 0 then some (1 : Int32) else some 0 else some 1) = some (zB (!decide (l = 6 ∧ z % 8 ≠ 0))) := by
    by_cases z3 : zLot l = 3
    · rw [if_pos (by rw [z3]; rfl), hd z3]
      by_cases z0 : z % 8 = 0
      · rw [if_pos (by rw [z0]; rfl), decide_eq_false (fun w => w.2 z0)]
        rfl
      · rw [if_neg (by rw [zl_0, zN_inj (by omega) (by decide)]; exact z0), decide_eq_true ⟨h3.mp z3, z0⟩]
        rfl
    · rw [if_neg (by rw [zl_3, zN_inj (by omega) (by decide)]; exact z3), decide_eq_false (fun w => z3 (h3.mpr w.1))]
      rfl
  rw [hx, Option.bind_some]
  unfold zDr
  by_cases hc : l = 6 ∧ z % 8 ≠ 0
  · rw [decide_eq_true hc, if_pos (by decide), if_pos hc]
    exact ⟨I, rfl, h, fun _ _ _ _ _ _ _ => rfl, fun _ _ _ => rfl⟩
  · rw [decide_eq_false hc, if_neg (by decide), if_neg hc, zmwhy h v h6 hk (zDt_ok l z) (fun _ => rfl), Option.bind_some]
    have hw6 := zWhy_lt s (zLot l) k (zDt l z)
    by_cases q : zWhy s (zLot l) k (zDt l z) = 0
    · obtain ⟨I', e1, e2, e3, e4, -⟩ := zmhap h v (n := n) h6 hk (zDt_ok l z) (fun _ => rfl) hn q
      rw [if_pos (by rw [q]; rfl), if_pos q, e1, Option.bind_some]
      exact ⟨I', rfl, e2, e3, e4⟩
    · rw [if_neg (by rw [zl_0, zN_inj (by omega) (by decide)]; exact q), if_neg q]
      exact ⟨I, rfl, h, fun _ _ _ _ _ _ _ => rfl, fun _ _ _ => rfl⟩
def zNx (x : Nat) : Nat := (75 * x + 74) % 65537
def zDrf : Nat → Nat → zA → zA
  | 0, _, s => s
  | j + 1, x, s => zDrf j (zNx x) (zDr s (zNx x % 8) (zNx x / 8 % 8) (zNx x / 64))
theorem zDrf_V : ∀ (j x : Nat) (s : zA), VS s → VS (zDrf j x s) := by
  intro j
  induction j with
  | zero => exact fun _ _ v => v
  | succ j ih => exact fun x s v => ih _ _ (VS_dr v (by omega))
theorem zDrf_0 : ∀ (j x : Nat) (s : zA), zDrf j x s 0 = s 0 ∧ zDrf j x s 6 = s 6 ∧ zDrf j x s 5 2 = s 5 2 := by
  intro j
  induction j with
  | zero => exact fun _ _ => ⟨rfl, rfl, rfl⟩
  | succ j ih =>
    intro x s
    obtain ⟨h1, h2, h3⟩ := ih (zNx x) (zDr s (zNx x % 8) (zNx x / 8 % 8) (zNx x / 64))
    obtain ⟨g1, g2, g3⟩ := zDr_0 s (zNx x % 8) (zNx x / 8 % 8) (zNx x / 64)
    exact ⟨h1.trans g1, h2.trans g2, h3.trans g3⟩
theorem zcdrL {m : Nat} (hm : m < 1000) : ∀ (j i x n : Nat) (I : zI) (s : zA), i + j = m → j + 20 < n → x < 65537 → GC 39 I s → VS s → ∃ I', Co_drift_2_L11 n (zN m) (zN x) (zN i) I = some I' ∧ GC 39 I' (zDrf j x s) ∧ (∀ b, b ≠ 39 → b ≠ 43 → b ≠ 45 → b ≠ 47 → I' b = I b) := by
  intro j
  induction j with
  | zero =>
    intro i x n I s hi hn hx hG v
    obtain ⟨n, rfl⟩ : ∃ e, n = e + 1 := ⟨n - 1, by omega⟩
    rw [Co_drift_2_L11, if_pos ((zN_le (by omega) (by omega)).mpr (by omega))]
    exact ⟨I, rfl, hG, fun _ _ _ _ _ => rfl⟩
  | succ j ih =>
    intro i x n I s hi hn hx hG v
    obtain ⟨n, rfl⟩ : ∃ e, n = e + 1 := ⟨n - 1, by omega⟩
    have hnx : zNx x < 65537 := Nat.mod_lt _ (by decide)
    have e1 : zRem ((75 * zN x) + 74) 65537 = zN (zNx x) := by
      rw [zl_75, zl_74, zl_65537, zN_mul, zN_add, zN_rem (by omega) (by decide)]
      rfl
    rw [Co_drift_2_L11, if_neg (by rw [zN_le (by omega) (by omega)]; omega), e1, zl_8, zl_64, zN_rem (by omega) (by decide), zN_div (by omega) (by decide), zN_div (by omega) (by decide), zN_rem (by omega) (by decide)]
    obtain ⟨I1, k1, k2, k3⟩ := zcdraw hG v (n := n) (k := zNx x % 8) (l := zNx x / 8 % 8) (z := zNx x / 64) (by omega) (by omega) (by omega) (by omega)
    rw [k1, Option.bind_some, zl_1, zN_add]
    obtain ⟨I', m1, m2, m3⟩ := ih (i + 1) (zNx x) n I1 _ (by omega) (by omega) hnx k2 (VS_dr v (by omega))
    exact ⟨I', m1, m2, fun b b1 b2 b3 b4 => (m3 b b1 b2 b3 b4).trans (k3 b b1 b2 b3 b4)⟩
theorem zmdrL {m : Nat} {w : Int32} (hm : m < 1000) : ∀ (j i x n : Nat) (I : zI) (s : zA), i + j = m → j + 20 < n → x < 65537 → GM I s → VS s → ∃ I', Mo_season_L49 n (zN m) w (zN x) (zN i) I = some I' ∧ GM I' (zDrf j x s) ∧ (∀ b, b ≠ 73 → b ≠ 75 → b ≠ 76 → b ≠ 77 → b ≠ 78 → b ≠ 86 → I' b = I b) ∧ (∀ i, i ≠ 5 → i ≠ 6 → I' 73 i = I 73 i) := by
  intro j
  induction j with
  | zero =>
    intro i x n I s hi hn hx hG v
    obtain ⟨n, rfl⟩ : ∃ e, n = e + 1 := ⟨n - 1, by omega⟩
    rw [Mo_season_L49, if_pos ((zN_le (by omega) (by omega)).mpr (by omega))]
    exact ⟨I, rfl, hG, fun _ _ _ _ _ _ _ => rfl, fun _ _ _ => rfl⟩
  | succ j ih =>
    intro i x n I s hi hn hx hG v
    obtain ⟨n, rfl⟩ : ∃ e, n = e + 1 := ⟨n - 1, by omega⟩
    have hnx : zNx x < 65537 := Nat.mod_lt _ (by decide)
    have e1 : Int64.toInt32 (zLrem ((75 * (Int32.toInt64 (zN x))) + 74) 65537) = zN (zNx x) := by
      rw [zJ_of x (by omega), show (75 : Int64) = zJ 75 from rfl, show (74 : Int64) = zJ 74 from rfl, show (65537 : Int64) = zJ 65537 from rfl, zJ_mul, zJ_add, zJ_rem (by omega) (by decide), zJ_to]
      rfl
    rw [Mo_season_L49, if_neg (by rw [zN_le (by omega) (by omega)]; omega), e1, zl_8, zl_64, zN_rem (by omega) (by decide), zN_div (by omega) (by decide), zN_div (by omega) (by decide), zN_rem (by omega) (by decide)]
    obtain ⟨I1, k1, k2, k3, k4⟩ := zmdraw hG v (n := n) (k := zNx x % 8) (l := zNx x / 8 % 8) (z := zNx x / 64) (by omega) (by omega) (by omega) (by omega)
    rw [k1, Option.bind_some, zl_1, zN_add]
    obtain ⟨I', m1, m2, m3, m4⟩ := ih (i + 1) (zNx x) n I1 _ (by omega) (by omega) hnx k2 (VS_dr v (by omega))
    exact ⟨I', m1, m2, fun b b1 b2 b3 b4 b5 b6 => (m3 b b1 b2 b3 b4 b5 b6).trans (k3 b b1 b2 b3 b4 b5 b6), fun i i1 i2 => (m4 i i1 i2).trans (k4 i i1 i2)⟩
