/-! ===== the classes' own facts ===== -/
def gC (c : Nat) : String := match c with
  | 0 => RX0 | 1 => RX1 | 2 => RX2 | 3 => RX3 | 4 => RX4 | 5 => RX5 | 6 => RX6 | 7 => RX7 | 8 => RX8 | 9 => RX9 | 10 => RX10 | 11 => RX11 | _ => RX12
def gT (c : Nat) : u_T := match c with
  | 0 => TX0 | 1 => TX1 | 2 => TX2 | 3 => TX3 | 4 => TX4 | 5 => TX5 | 6 => TX6 | 7 => TX7 | 8 => TX8 | 9 => TX9 | 10 => TX10 | 11 => TX11 | _ => TX12
theorem gcl_at (c : Nat) (h : c < 13) : gcl[c]? = some (gC c, gT c, gnf c) := by
  match c, h with
  | 0, _ => rfl
  | 1, _ => rfl
  | 2, _ => rfl
  | 3, _ => rfl
  | 4, _ => rfl
  | 5, _ => rfl
  | 6, _ => rfl
  | 7, _ => rfl
  | 8, _ => rfl
  | 9, _ => rfl
  | 10, _ => rfl
  | 11, _ => rfl
  | 12, _ => rfl
theorem gui_0 : ∀ w ∈ u_ws RX0 TX0 11, w ∈ lw_tbl ∧ goodWord w = true := by decide +kernel
theorem gui_1 : ∀ w ∈ u_ws RX1 TX1 13, w ∈ lw_tbl ∧ goodWord w = true := by decide +kernel
theorem gui_2 : ∀ w ∈ u_ws RX2 TX2 6, w ∈ lw_tbl ∧ goodWord w = true := by decide +kernel
theorem gui_3 : ∀ w ∈ u_ws RX3 TX3 2, w ∈ lw_tbl ∧ goodWord w = true := by decide +kernel
theorem gui_4 : ∀ w ∈ u_ws RX4 TX4 9, w ∈ lw_tbl ∧ goodWord w = true := by decide +kernel
theorem gui_5 : ∀ w ∈ u_ws RX5 TX5 3, w ∈ lw_tbl ∧ goodWord w = true := by decide +kernel
theorem gui_6 : ∀ w ∈ u_ws RX6 TX6 2, w ∈ lw_tbl ∧ goodWord w = true := by decide +kernel
theorem gui_7 : ∀ w ∈ u_ws RX7 TX7 9, w ∈ lw_tbl ∧ goodWord w = true := by decide +kernel
theorem gui_8 : ∀ w ∈ u_ws RX8 TX8 11, w ∈ lw_tbl ∧ goodWord w = true := by decide +kernel
theorem gui_9 : ∀ w ∈ u_ws RX9 TX9 13, w ∈ lw_tbl ∧ goodWord w = true := by decide +kernel
theorem gui_10 : ∀ w ∈ u_ws RX10 TX10 5, w ∈ lw_tbl ∧ goodWord w = true := by decide +kernel
theorem gui_11 : ∀ w ∈ u_ws RX11 TX11 16, w ∈ lw_tbl ∧ goodWord w = true := by decide +kernel
theorem gui_12 : ∀ w ∈ u_ws RX12 TX12 67, w ∈ lw_tbl ∧ goodWord w = true := by decide +kernel
theorem gws_in (c : Nat) (h : c < 13) : ∀ w ∈ u_ws (gC c) (gT c) (gnf c), w ∈ gtb := by
  intro w hw
  refine List.mem_filter.mpr ?_
  match c, h with
  | 0, _ => exact gui_0 w hw
  | 1, _ => exact gui_1 w hw
  | 2, _ => exact gui_2 w hw
  | 3, _ => exact gui_3 w hw
  | 4, _ => exact gui_4 w hw
  | 5, _ => exact gui_5 w hw
  | 6, _ => exact gui_6 w hw
  | 7, _ => exact gui_7 w hw
  | 8, _ => exact gui_8 w hw
  | 9, _ => exact gui_9 w hw
  | 10, _ => exact gui_10 w hw
  | 11, _ => exact gui_11 w hw
  | 12, _ => exact gui_12 w hw
theorem gty_ok (c : Nat) (h : c < 13) : ∀ j, j < gnf c → parseFieldDescriptor (gT c j).2.2.1 = some (gty c j) := by
  match c, h with
  | 0, _ => exact tyX0_ok
  | 1, _ => exact tyX1_ok
  | 2, _ => exact tyX2_ok
  | 3, _ => exact tyX3_ok
  | 4, _ => exact tyX4_ok
  | 5, _ => exact tyX5_ok
  | 6, _ => exact tyX6_ok
  | 7, _ => exact tyX7_ok
  | 8, _ => exact tyX8_ok
  | 9, _ => exact tyX9_ok
  | 10, _ => exact tyX10_ok
  | 11, _ => exact tyX11_ok
  | 12, _ => exact tyX12_ok
theorem gnm_ok (c : Nat) (h : c < 13) : ∀ x, x < gnf c → ∀ y, y < gnf c → x ≠ y → (gT c x).2.1 ≠ (gT c y).2.1 := by
  match c, h with
  | 0, _ => exact nmX0
  | 1, _ => exact nmX1
  | 2, _ => exact nmX2
  | 3, _ => exact nmX3
  | 4, _ => exact nmX4
  | 5, _ => exact nmX5
  | 6, _ => exact nmX6
  | 7, _ => exact nmX7
  | 8, _ => exact nmX8
  | 9, _ => exact nmX9
  | 10, _ => exact nmX10
  | 11, _ => exact nmX11
  | 12, _ => exact nmX12
