theorem iX0 : ∀ w ∈ u_ws RX0 TX0 3, w ∈ lw_tbl := by decide +kernel
theorem iX1 : ∀ w ∈ u_ws RX1 TX1 2, w ∈ lw_tbl := by decide +kernel
theorem iX2 : ∀ w ∈ u_ws RX2 TX2 5, w ∈ lw_tbl := by decide +kernel
theorem iX3 : ∀ w ∈ u_ws RX3 TX3 8, w ∈ lw_tbl := by decide +kernel
theorem iX4 : ∀ w ∈ u_ws RX4 TX4 17, w ∈ lw_tbl := by decide +kernel
theorem iX5 : ∀ w ∈ u_ws RX5 TX5 6, w ∈ lw_tbl := by decide +kernel
theorem iX6 : ∀ w ∈ u_ws RX6 TX6 7, w ∈ lw_tbl := by decide +kernel
theorem iX7 : ∀ w ∈ u_ws RX7 TX7 9, w ∈ lw_tbl := by decide +kernel
theorem iX8 : ∀ w ∈ u_ws RX8 TX8 5, w ∈ lw_tbl := by decide +kernel
theorem iX9 : ∀ w ∈ u_ws RX9 TX9 2, w ∈ lw_tbl := by decide +kernel
theorem iX10 : ∀ w ∈ u_ws RX10 TX10 9, w ∈ lw_tbl := by decide +kernel
theorem iX11 : ∀ w ∈ u_ws RX11 TX11 15, w ∈ lw_tbl := by decide +kernel
theorem iX12 : ∀ w ∈ u_ws RX12 TX12 71, w ∈ lw_tbl := by decide +kernel
theorem cl_ws : ∀ (ci : Nat) (q : vw_C), vwCl[ci]? = some q → ∀ w ∈ u_ws q.1 q.2.1 q.2.2, w ∈ lw_tbl := by
  intro ci q h
  match ci, h with
  | 0, h => cases h; exact iX0
  | 1, h => cases h; exact iX1
  | 2, h => cases h; exact iX2
  | 3, h => cases h; exact iX3
  | 4, h => cases h; exact iX4
  | 5, h => cases h; exact iX5
  | 6, h => cases h; exact iX6
  | 7, h => cases h; exact iX7
  | 8, h => cases h; exact iX8
  | 9, h => cases h; exact iX9
  | 10, h => cases h; exact iX10
  | 11, h => cases h; exact iX11
  | 12, h => cases h; exact iX12
  | k + 13, h => simp [vwCl] at h
theorem cl_ty : ∀ (ci : Nat) (q : vw_C), vwCl[ci]? = some q → ∀ k, k < q.2.2 → parseFieldDescriptor (q.2.1 k).2.2.1 = some (tyOf ci k) := by
  intro ci q h
  match ci, h with
  | 0, h => cases h; exact tyX0_ok
  | 1, h => cases h; exact tyX1_ok
  | 2, h => cases h; exact tyX2_ok
  | 3, h => cases h; exact tyX3_ok
  | 4, h => cases h; exact tyX4_ok
  | 5, h => cases h; exact tyX5_ok
  | 6, h => cases h; exact tyX6_ok
  | 7, h => cases h; exact tyX7_ok
  | 8, h => cases h; exact tyX8_ok
  | 9, h => cases h; exact tyX9_ok
  | 10, h => cases h; exact tyX10_ok
  | 11, h => cases h; exact tyX11_ok
  | 12, h => cases h; exact tyX12_ok
  | k + 13, h => simp [vwCl] at h
theorem cl_nm : ∀ (ci : Nat) (q : vw_C), vwCl[ci]? = some q → ∀ a, a < q.2.2 → ∀ b, b < q.2.2 → a ≠ b → (q.2.1 a).2.1 ≠ (q.2.1 b).2.1 := by
  intro ci q h
  match ci, h with
  | 0, h => cases h; exact nmX0
  | 1, h => cases h; exact nmX1
  | 2, h => cases h; exact nmX2
  | 3, h => cases h; exact nmX3
  | 4, h => cases h; exact nmX4
  | 5, h => cases h; exact nmX5
  | 6, h => cases h; exact nmX6
  | 7, h => cases h; exact nmX7
  | 8, h => cases h; exact nmX8
  | 9, h => cases h; exact nmX9
  | 10, h => cases h; exact nmX10
  | 11, h => cases h; exact nmX11
  | 12, h => cases h; exact nmX12
  | k + 13, h => simp [vwCl] at h
theorem fcX0 : ∀ k, k < 3 → fcode (tyX0 k) < 4 := by decide +kernel
theorem fcX1 : ∀ k, k < 2 → fcode (tyX1 k) < 4 := by decide +kernel
theorem fcX2 : ∀ k, k < 5 → fcode (tyX2 k) < 4 := by decide +kernel
theorem fcX3 : ∀ k, k < 8 → fcode (tyX3 k) < 4 := by decide +kernel
theorem fcX4 : ∀ k, k < 17 → fcode (tyX4 k) < 4 := by decide +kernel
theorem fcX5 : ∀ k, k < 6 → fcode (tyX5 k) < 4 := by decide +kernel
theorem fcX6 : ∀ k, k < 7 → fcode (tyX6 k) < 4 := by decide +kernel
theorem fcX7 : ∀ k, k < 9 → fcode (tyX7 k) < 4 := by decide +kernel
theorem fcX8 : ∀ k, k < 5 → fcode (tyX8 k) < 4 := by decide +kernel
theorem fcX9 : ∀ k, k < 2 → fcode (tyX9 k) < 4 := by decide +kernel
theorem fcX10 : ∀ k, k < 9 → fcode (tyX10 k) < 4 := by decide +kernel
theorem fcX11 : ∀ k, k < 15 → fcode (tyX11 k) < 4 := by decide +kernel
theorem fcX12 : ∀ k, k < 71 → fcode (tyX12 k) < 4 := by decide +kernel
theorem cl_fc : ∀ (ci : Nat) (q : vw_C), vwCl[ci]? = some q → ∀ k, k < q.2.2 → fcode (tyOf ci k) < 4 := by
  intro ci q h
  match ci, h with
  | 0, h => cases h; exact fcX0
  | 1, h => cases h; exact fcX1
  | 2, h => cases h; exact fcX2
  | 3, h => cases h; exact fcX3
  | 4, h => cases h; exact fcX4
  | 5, h => cases h; exact fcX5
  | 6, h => cases h; exact fcX6
  | 7, h => cases h; exact fcX7
  | 8, h => cases h; exact fcX8
  | 9, h => cases h; exact fcX9
  | 10, h => cases h; exact fcX10
  | 11, h => cases h; exact fcX11
  | 12, h => cases h; exact fcX12
  | k + 13, h => simp [vwCl] at h
theorem cl_lt : ∀ (ci : Nat) (q : vw_C), vwCl[ci]? = some q → ci < 13 := by
  intro ci q h
  match ci, h with
  | 0, h => decide
  | 1, h => decide
  | 2, h => decide
  | 3, h => decide
  | 4, h => decide
  | 5, h => decide
  | 6, h => decide
  | 7, h => decide
  | 8, h => decide
  | 9, h => decide
  | 10, h => decide
  | 11, h => decide
  | 12, h => decide
  | k + 13, h => simp [vwCl] at h
