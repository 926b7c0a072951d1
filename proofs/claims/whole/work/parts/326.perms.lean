/-! every row of seven, tried -/
set_option maxRecDepth 100000 in
theorem zPq_01 : (zPx 5 [0, 1]).all zPq = true := by decide +kernel
set_option maxRecDepth 100000 in
theorem zPq_02 : (zPx 5 [0, 2]).all zPq = true := by decide +kernel
set_option maxRecDepth 100000 in
theorem zPq_03 : (zPx 5 [0, 3]).all zPq = true := by decide +kernel
set_option maxRecDepth 100000 in
theorem zPq_04 : (zPx 5 [0, 4]).all zPq = true := by decide +kernel
set_option maxRecDepth 100000 in
theorem zPq_05 : (zPx 5 [0, 5]).all zPq = true := by decide +kernel
set_option maxRecDepth 100000 in
theorem zPq_06 : (zPx 5 [0, 6]).all zPq = true := by decide +kernel
set_option maxRecDepth 100000 in
theorem zPq_10 : (zPx 5 [1, 0]).all zPq = true := by decide +kernel
set_option maxRecDepth 100000 in
theorem zPq_12 : (zPx 5 [1, 2]).all zPq = true := by decide +kernel
set_option maxRecDepth 100000 in
theorem zPq_13 : (zPx 5 [1, 3]).all zPq = true := by decide +kernel
set_option maxRecDepth 100000 in
theorem zPq_14 : (zPx 5 [1, 4]).all zPq = true := by decide +kernel
set_option maxRecDepth 100000 in
theorem zPq_15 : (zPx 5 [1, 5]).all zPq = true := by decide +kernel
set_option maxRecDepth 100000 in
theorem zPq_16 : (zPx 5 [1, 6]).all zPq = true := by decide +kernel
set_option maxRecDepth 100000 in
theorem zPq_20 : (zPx 5 [2, 0]).all zPq = true := by decide +kernel
set_option maxRecDepth 100000 in
theorem zPq_21 : (zPx 5 [2, 1]).all zPq = true := by decide +kernel
set_option maxRecDepth 100000 in
theorem zPq_23 : (zPx 5 [2, 3]).all zPq = true := by decide +kernel
set_option maxRecDepth 100000 in
theorem zPq_24 : (zPx 5 [2, 4]).all zPq = true := by decide +kernel
set_option maxRecDepth 100000 in
theorem zPq_25 : (zPx 5 [2, 5]).all zPq = true := by decide +kernel
set_option maxRecDepth 100000 in
theorem zPq_26 : (zPx 5 [2, 6]).all zPq = true := by decide +kernel
set_option maxRecDepth 100000 in
theorem zPq_30 : (zPx 5 [3, 0]).all zPq = true := by decide +kernel
set_option maxRecDepth 100000 in
theorem zPq_31 : (zPx 5 [3, 1]).all zPq = true := by decide +kernel
set_option maxRecDepth 100000 in
theorem zPq_32 : (zPx 5 [3, 2]).all zPq = true := by decide +kernel
set_option maxRecDepth 100000 in
theorem zPq_34 : (zPx 5 [3, 4]).all zPq = true := by decide +kernel
set_option maxRecDepth 100000 in
theorem zPq_35 : (zPx 5 [3, 5]).all zPq = true := by decide +kernel
set_option maxRecDepth 100000 in
theorem zPq_36 : (zPx 5 [3, 6]).all zPq = true := by decide +kernel
set_option maxRecDepth 100000 in
theorem zPq_40 : (zPx 5 [4, 0]).all zPq = true := by decide +kernel
set_option maxRecDepth 100000 in
theorem zPq_41 : (zPx 5 [4, 1]).all zPq = true := by decide +kernel
set_option maxRecDepth 100000 in
theorem zPq_42 : (zPx 5 [4, 2]).all zPq = true := by decide +kernel
set_option maxRecDepth 100000 in
theorem zPq_43 : (zPx 5 [4, 3]).all zPq = true := by decide +kernel
set_option maxRecDepth 100000 in
theorem zPq_45 : (zPx 5 [4, 5]).all zPq = true := by decide +kernel
set_option maxRecDepth 100000 in
theorem zPq_46 : (zPx 5 [4, 6]).all zPq = true := by decide +kernel
set_option maxRecDepth 100000 in
theorem zPq_50 : (zPx 5 [5, 0]).all zPq = true := by decide +kernel
set_option maxRecDepth 100000 in
theorem zPq_51 : (zPx 5 [5, 1]).all zPq = true := by decide +kernel
set_option maxRecDepth 100000 in
theorem zPq_52 : (zPx 5 [5, 2]).all zPq = true := by decide +kernel
set_option maxRecDepth 100000 in
theorem zPq_53 : (zPx 5 [5, 3]).all zPq = true := by decide +kernel
set_option maxRecDepth 100000 in
theorem zPq_54 : (zPx 5 [5, 4]).all zPq = true := by decide +kernel
set_option maxRecDepth 100000 in
theorem zPq_56 : (zPx 5 [5, 6]).all zPq = true := by decide +kernel
set_option maxRecDepth 100000 in
theorem zPq_60 : (zPx 5 [6, 0]).all zPq = true := by decide +kernel
set_option maxRecDepth 100000 in
theorem zPq_61 : (zPx 5 [6, 1]).all zPq = true := by decide +kernel
set_option maxRecDepth 100000 in
theorem zPq_62 : (zPx 5 [6, 2]).all zPq = true := by decide +kernel
set_option maxRecDepth 100000 in
theorem zPq_63 : (zPx 5 [6, 3]).all zPq = true := by decide +kernel
set_option maxRecDepth 100000 in
theorem zPq_64 : (zPx 5 [6, 4]).all zPq = true := by decide +kernel
set_option maxRecDepth 100000 in
theorem zPq_65 : (zPx 5 [6, 5]).all zPq = true := by decide +kernel
theorem zPq_2 : ∀ a, a < 7 → ∀ b, b < 7 → a ≠ b → (zPx 5 [a, b]).all zPq = true := by
  intro a ha b hb hab
  match a, b, ha, hb, hab with
  | 0, 1, _, _, _ => exact zPq_01
  | 0, 2, _, _, _ => exact zPq_02
  | 0, 3, _, _, _ => exact zPq_03
  | 0, 4, _, _, _ => exact zPq_04
  | 0, 5, _, _, _ => exact zPq_05
  | 0, 6, _, _, _ => exact zPq_06
  | 1, 0, _, _, _ => exact zPq_10
  | 1, 2, _, _, _ => exact zPq_12
  | 1, 3, _, _, _ => exact zPq_13
  | 1, 4, _, _, _ => exact zPq_14
  | 1, 5, _, _, _ => exact zPq_15
  | 1, 6, _, _, _ => exact zPq_16
  | 2, 0, _, _, _ => exact zPq_20
  | 2, 1, _, _, _ => exact zPq_21
  | 2, 3, _, _, _ => exact zPq_23
  | 2, 4, _, _, _ => exact zPq_24
  | 2, 5, _, _, _ => exact zPq_25
  | 2, 6, _, _, _ => exact zPq_26
  | 3, 0, _, _, _ => exact zPq_30
  | 3, 1, _, _, _ => exact zPq_31
  | 3, 2, _, _, _ => exact zPq_32
  | 3, 4, _, _, _ => exact zPq_34
  | 3, 5, _, _, _ => exact zPq_35
  | 3, 6, _, _, _ => exact zPq_36
  | 4, 0, _, _, _ => exact zPq_40
  | 4, 1, _, _, _ => exact zPq_41
  | 4, 2, _, _, _ => exact zPq_42
  | 4, 3, _, _, _ => exact zPq_43
  | 4, 5, _, _, _ => exact zPq_45
  | 4, 6, _, _, _ => exact zPq_46
  | 5, 0, _, _, _ => exact zPq_50
  | 5, 1, _, _, _ => exact zPq_51
  | 5, 2, _, _, _ => exact zPq_52
  | 5, 3, _, _, _ => exact zPq_53
  | 5, 4, _, _, _ => exact zPq_54
  | 5, 6, _, _, _ => exact zPq_56
  | 6, 0, _, _, _ => exact zPq_60
  | 6, 1, _, _, _ => exact zPq_61
  | 6, 2, _, _, _ => exact zPq_62
  | 6, 3, _, _, _ => exact zPq_63
  | 6, 4, _, _, _ => exact zPq_64
  | 6, 5, _, _, _ => exact zPq_65
  | 0, 0, _, _, h => exact absurd rfl h
  | 1, 1, _, _, h => exact absurd rfl h
  | 2, 2, _, _, h => exact absurd rfl h
  | 3, 3, _, _, h => exact absurd rfl h
  | 4, 4, _, _, h => exact absurd rfl h
  | 5, 5, _, _, h => exact absurd rfl h
  | 6, 6, _, _, h => exact absurd rfl h
  | a + 7, _, h, _, _ => omega
  | 0, b + 7, _, h, _ => omega
  | 1, b + 7, _, h, _ => omega
  | 2, b + 7, _, h, _ => omega
  | 3, b + 7, _, h, _ => omega
  | 4, b + 7, _, h, _ => omega
  | 5, b + 7, _, h, _ => omega
  | 6, b + 7, _, h, _ => omega
