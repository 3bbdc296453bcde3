set_option maxRecDepth 20000 in
theorem lay_X0 : ∀ k, k < 5 → u_lay RX0 TX0 k ∈ mm_T
  | 0, _ => mm_tbk mm_t1 95 rfl rfl
  | 1, _ => mm_tbk mm_t1 97 rfl rfl
  | 2, _ => mm_tbk mm_t1 99 rfl rfl
  | 3, _ => mm_tbk mm_t1 101 rfl rfl
  | 4, _ => mm_tbk mm_t1 103 rfl rfl
  | n + 5, h => absurd h (by omega)
theorem cls_X0 : mm_cls 0 RX0 TX0 5 tyX0 := ⟨rfl, mm_cls_in lay_X0, tyX0_ok, nmX0⟩
set_option maxRecDepth 20000 in
theorem lay_X1 : ∀ k, k < 8 → u_lay RX1 TX1 k ∈ mm_T
  | 0, _ => mm_tbk mm_t2 143 rfl rfl
  | 1, _ => mm_tbk mm_t2 145 rfl rfl
  | 2, _ => mm_tbk mm_t2 147 rfl rfl
  | 3, _ => mm_tbk mm_t2 149 rfl rfl
  | 4, _ => mm_tbk mm_t2 151 rfl rfl
  | 5, _ => mm_tbk mm_t2 153 rfl rfl
  | 6, _ => mm_tbk mm_t2 155 rfl rfl
  | 7, _ => mm_tbk mm_t2 157 rfl rfl
  | n + 8, h => absurd h (by omega)
theorem cls_X1 : mm_cls 1 RX1 TX1 8 tyX1 := ⟨rfl, mm_cls_in lay_X1, tyX1_ok, nmX1⟩
set_option maxRecDepth 20000 in
theorem lay_X2 : ∀ k, k < 7 → u_lay RX2 TX2 k ∈ mm_T
  | 0, _ => mm_tbk mm_t1 236 rfl rfl
  | 1, _ => mm_tbk mm_t1 238 rfl rfl
  | 2, _ => mm_tbk mm_t2 0 rfl rfl
  | 3, _ => mm_tbk mm_t2 2 rfl rfl
  | 4, _ => mm_tbk mm_t2 4 rfl rfl
  | 5, _ => mm_tbk mm_t2 6 rfl rfl
  | 6, _ => mm_tbk mm_t2 8 rfl rfl
  | n + 7, h => absurd h (by omega)
theorem cls_X2 : mm_cls 2 RX2 TX2 7 tyX2 := ⟨rfl, mm_cls_in lay_X2, tyX2_ok, nmX2⟩
set_option maxRecDepth 20000 in
theorem lay_X3 : ∀ k, k < 2 → u_lay RX3 TX3 k ∈ mm_T
  | 0, _ => mm_tbk mm_t2 23 rfl rfl
  | 1, _ => mm_tbk mm_t2 25 rfl rfl
  | n + 2, h => absurd h (by omega)
theorem cls_X3 : mm_cls 3 RX3 TX3 2 tyX3 := ⟨rfl, mm_cls_in lay_X3, tyX3_ok, nmX3⟩
set_option maxRecDepth 20000 in
theorem lay_X4 : ∀ k, k < 12 → u_lay RX4 TX4 k ∈ mm_T
  | 0, _ => mm_tbk mm_t2 77 rfl rfl
  | 1, _ => mm_tbk mm_t2 79 rfl rfl
  | 2, _ => mm_tbk mm_t2 81 rfl rfl
  | 3, _ => mm_tbk mm_t2 83 rfl rfl
  | 4, _ => mm_tbk mm_t2 85 rfl rfl
  | 5, _ => mm_tbk mm_t2 87 rfl rfl
  | 6, _ => mm_tbk mm_t2 89 rfl rfl
  | 7, _ => mm_tbk mm_t2 91 rfl rfl
  | 8, _ => mm_tbk mm_t2 93 rfl rfl
  | 9, _ => mm_tbk mm_t2 95 rfl rfl
  | 10, _ => mm_tbk mm_t2 97 rfl rfl
  | 11, _ => mm_tbk mm_t2 99 rfl rfl
  | n + 12, h => absurd h (by omega)
theorem cls_X4 : mm_cls 4 RX4 TX4 12 tyX4 := ⟨rfl, mm_cls_in lay_X4, tyX4_ok, nmX4⟩
set_option maxRecDepth 20000 in
theorem lay_X5 : ∀ k, k < 6 → u_lay RX5 TX5 k ∈ mm_T
  | 0, _ => mm_tbk mm_t1 161 rfl rfl
  | 1, _ => mm_tbk mm_t1 163 rfl rfl
  | 2, _ => mm_tbk mm_t1 165 rfl rfl
  | 3, _ => mm_tbk mm_t1 167 rfl rfl
  | 4, _ => mm_tbk mm_t1 169 rfl rfl
  | 5, _ => mm_tbk mm_t1 171 rfl rfl
  | n + 6, h => absurd h (by omega)
theorem cls_X5 : mm_cls 5 RX5 TX5 6 tyX5 := ⟨rfl, mm_cls_in lay_X5, tyX5_ok, nmX5⟩
set_option maxRecDepth 20000 in
theorem lay_X6 : ∀ k, k < 9 → u_lay RX6 TX6 k ∈ mm_T
  | 0, _ => mm_tbk mm_t1 61 rfl rfl
  | 1, _ => mm_tbk mm_t1 63 rfl rfl
  | 2, _ => mm_tbk mm_t1 65 rfl rfl
  | 3, _ => mm_tbk mm_t1 67 rfl rfl
  | 4, _ => mm_tbk mm_t1 69 rfl rfl
  | 5, _ => mm_tbk mm_t1 71 rfl rfl
  | 6, _ => mm_tbk mm_t1 73 rfl rfl
  | 7, _ => mm_tbk mm_t1 75 rfl rfl
  | 8, _ => mm_tbk mm_t1 77 rfl rfl
  | n + 9, h => absurd h (by omega)
theorem cls_X6 : mm_cls 6 RX6 TX6 9 tyX6 := ⟨rfl, mm_cls_in lay_X6, tyX6_ok, nmX6⟩
set_option maxRecDepth 20000 in
theorem lay_X7 : ∀ k, k < 5 → u_lay RX7 TX7 k ∈ mm_T
  | 0, _ => mm_tbk mm_t2 115 rfl rfl
  | 1, _ => mm_tbk mm_t2 117 rfl rfl
  | 2, _ => mm_tbk mm_t2 119 rfl rfl
  | 3, _ => mm_tbk mm_t2 121 rfl rfl
  | 4, _ => mm_tbk mm_t2 123 rfl rfl
  | n + 5, h => absurd h (by omega)
theorem cls_X7 : mm_cls 7 RX7 TX7 5 tyX7 := ⟨rfl, mm_cls_in lay_X7, tyX7_ok, nmX7⟩
set_option maxRecDepth 20000 in
theorem lay_X8 : ∀ k, k < 6 → u_lay RX8 TX8 k ∈ mm_T
  | 0, _ => mm_tbk mm_t2 43 rfl rfl
  | 1, _ => mm_tbk mm_t2 45 rfl rfl
  | 2, _ => mm_tbk mm_t2 47 rfl rfl
  | 3, _ => mm_tbk mm_t2 49 rfl rfl
  | 4, _ => mm_tbk mm_t2 51 rfl rfl
  | 5, _ => mm_tbk mm_t2 53 rfl rfl
  | n + 6, h => absurd h (by omega)
theorem cls_X8 : mm_cls 8 RX8 TX8 6 tyX8 := ⟨rfl, mm_cls_in lay_X8, tyX8_ok, nmX8⟩
set_option maxRecDepth 20000 in
theorem lay_X9 : ∀ k, k < 8 → u_lay RX9 TX9 k ∈ mm_T
  | 0, _ => mm_tbk mm_t1 131 rfl rfl
  | 1, _ => mm_tbk mm_t1 133 rfl rfl
  | 2, _ => mm_tbk mm_t1 135 rfl rfl
  | 3, _ => mm_tbk mm_t1 137 rfl rfl
  | 4, _ => mm_tbk mm_t1 139 rfl rfl
  | 5, _ => mm_tbk mm_t1 141 rfl rfl
  | 6, _ => mm_tbk mm_t1 143 rfl rfl
  | 7, _ => mm_tbk mm_t1 145 rfl rfl
  | n + 8, h => absurd h (by omega)
theorem cls_X9 : mm_cls 9 RX9 TX9 8 tyX9 := ⟨rfl, mm_cls_in lay_X9, tyX9_ok, nmX9⟩
set_option maxRecDepth 20000 in
theorem lay_X10 : ∀ k, k < 13 → u_lay RX10 TX10 k ∈ mm_T
  | 0, _ => mm_tbk mm_t1 194 rfl rfl
  | 1, _ => mm_tbk mm_t1 196 rfl rfl
  | 2, _ => mm_tbk mm_t1 198 rfl rfl
  | 3, _ => mm_tbk mm_t1 200 rfl rfl
  | 4, _ => mm_tbk mm_t1 202 rfl rfl
  | 5, _ => mm_tbk mm_t1 204 rfl rfl
  | 6, _ => mm_tbk mm_t1 206 rfl rfl
  | 7, _ => mm_tbk mm_t1 208 rfl rfl
  | 8, _ => mm_tbk mm_t1 210 rfl rfl
  | 9, _ => mm_tbk mm_t1 212 rfl rfl
  | 10, _ => mm_tbk mm_t1 214 rfl rfl
  | 11, _ => mm_tbk mm_t1 216 rfl rfl
  | 12, _ => mm_tbk mm_t1 218 rfl rfl
  | n + 13, h => absurd h (by omega)
theorem cls_X10 : mm_cls 10 RX10 TX10 13 tyX10 := ⟨rfl, mm_cls_in lay_X10, tyX10_ok, nmX10⟩
set_option maxRecDepth 20000 in
theorem lay_X11 : ∀ k, k < 18 → u_lay RX11 TX11 k ∈ mm_T
  | 0, _ => mm_tbk mm_t2 181 rfl rfl
  | 1, _ => mm_tbk mm_t2 183 rfl rfl
  | 2, _ => mm_tbk mm_t2 185 rfl rfl
  | 3, _ => mm_tbk mm_t2 187 rfl rfl
  | 4, _ => mm_tbk mm_t2 189 rfl rfl
  | 5, _ => mm_tbk mm_t2 191 rfl rfl
  | 6, _ => mm_tbk mm_t2 193 rfl rfl
  | 7, _ => mm_tbk mm_t2 195 rfl rfl
  | 8, _ => mm_tbk mm_t2 197 rfl rfl
  | 9, _ => mm_tbk mm_t2 199 rfl rfl
  | 10, _ => mm_tbk mm_t2 201 rfl rfl
  | 11, _ => mm_tbk mm_t2 203 rfl rfl
  | 12, _ => mm_tbk mm_t2 205 rfl rfl
  | 13, _ => mm_tbk mm_t2 207 rfl rfl
  | 14, _ => mm_tbk mm_t2 209 rfl rfl
  | 15, _ => mm_tbk mm_t2 211 rfl rfl
  | 16, _ => mm_tbk mm_t2 213 rfl rfl
  | 17, _ => mm_tbk mm_t2 215 rfl rfl
  | n + 18, h => absurd h (by omega)
theorem cls_X11 : mm_cls 11 RX11 TX11 18 tyX11 := ⟨rfl, mm_cls_in lay_X11, tyX11_ok, nmX11⟩
set_option maxRecDepth 20000 in
theorem lay_X12 : ∀ k, k < 77 → u_lay RX12 TX12 k ∈ mm_T
  | 0, _ => mm_tbk mm_t5 233 rfl rfl
  | 1, _ => mm_tbk mm_t5 235 rfl rfl
  | 2, _ => mm_tbk mm_t5 237 rfl rfl
  | 3, _ => mm_tbk mm_t5 239 rfl rfl
  | 4, _ => mm_tbk mm_t6 1 rfl rfl
  | 5, _ => mm_tbk mm_t6 3 rfl rfl
  | 6, _ => mm_tbk mm_t6 5 rfl rfl
  | 7, _ => mm_tbk mm_t6 7 rfl rfl
  | 8, _ => mm_tbk mm_t6 9 rfl rfl
  | 9, _ => mm_tbk mm_t6 11 rfl rfl
  | 10, _ => mm_tbk mm_t6 13 rfl rfl
  | 11, _ => mm_tbk mm_t6 15 rfl rfl
  | 12, _ => mm_tbk mm_t6 17 rfl rfl
  | 13, _ => mm_tbk mm_t6 19 rfl rfl
  | 14, _ => mm_tbk mm_t6 21 rfl rfl
  | 15, _ => mm_tbk mm_t6 23 rfl rfl
  | 16, _ => mm_tbk mm_t6 25 rfl rfl
  | 17, _ => mm_tbk mm_t6 27 rfl rfl
  | 18, _ => mm_tbk mm_t6 29 rfl rfl
  | 19, _ => mm_tbk mm_t6 31 rfl rfl
  | 20, _ => mm_tbk mm_t6 33 rfl rfl
  | 21, _ => mm_tbk mm_t6 35 rfl rfl
  | 22, _ => mm_tbk mm_t6 37 rfl rfl
  | 23, _ => mm_tbk mm_t6 39 rfl rfl
  | 24, _ => mm_tbk mm_t6 41 rfl rfl
  | 25, _ => mm_tbk mm_t6 43 rfl rfl
  | 26, _ => mm_tbk mm_t6 45 rfl rfl
  | 27, _ => mm_tbk mm_t6 47 rfl rfl
  | 28, _ => mm_tbk mm_t6 49 rfl rfl
  | 29, _ => mm_tbk mm_t6 51 rfl rfl
  | 30, _ => mm_tbk mm_t6 53 rfl rfl
  | 31, _ => mm_tbk mm_t6 55 rfl rfl
  | 32, _ => mm_tbk mm_t6 57 rfl rfl
  | 33, _ => mm_tbk mm_t6 59 rfl rfl
  | 34, _ => mm_tbk mm_t6 61 rfl rfl
  | 35, _ => mm_tbk mm_t6 63 rfl rfl
  | 36, _ => mm_tbk mm_t6 65 rfl rfl
  | 37, _ => mm_tbk mm_t6 67 rfl rfl
  | 38, _ => mm_tbk mm_t6 69 rfl rfl
  | 39, _ => mm_tbk mm_t6 71 rfl rfl
  | 40, _ => mm_tbk mm_t6 73 rfl rfl
  | 41, _ => mm_tbk mm_t6 75 rfl rfl
  | 42, _ => mm_tbk mm_t6 77 rfl rfl
  | 43, _ => mm_tbk mm_t6 79 rfl rfl
  | 44, _ => mm_tbk mm_t6 81 rfl rfl
  | 45, _ => mm_tbk mm_t6 83 rfl rfl
  | 46, _ => mm_tbk mm_t6 85 rfl rfl
  | 47, _ => mm_tbk mm_t6 87 rfl rfl
  | 48, _ => mm_tbk mm_t6 89 rfl rfl
  | 49, _ => mm_tbk mm_t6 91 rfl rfl
  | 50, _ => mm_tbk mm_t6 93 rfl rfl
  | 51, _ => mm_tbk mm_t6 95 rfl rfl
  | 52, _ => mm_tbk mm_t6 97 rfl rfl
  | 53, _ => mm_tbk mm_t6 99 rfl rfl
  | 54, _ => mm_tbk mm_t6 101 rfl rfl
  | 55, _ => mm_tbk mm_t6 103 rfl rfl
  | 56, _ => mm_tbk mm_t6 105 rfl rfl
  | 57, _ => mm_tbk mm_t6 107 rfl rfl
  | 58, _ => mm_tbk mm_t6 109 rfl rfl
  | 59, _ => mm_tbk mm_t6 111 rfl rfl
  | 60, _ => mm_tbk mm_t6 113 rfl rfl
  | 61, _ => mm_tbk mm_t6 115 rfl rfl
  | 62, _ => mm_tbk mm_t6 117 rfl rfl
  | 63, _ => mm_tbk mm_t6 119 rfl rfl
  | 64, _ => mm_tbk mm_t6 121 rfl rfl
  | 65, _ => mm_tbk mm_t6 123 rfl rfl
  | 66, _ => mm_tbk mm_t6 125 rfl rfl
  | 67, _ => mm_tbk mm_t6 127 rfl rfl
  | 68, _ => mm_tbk mm_t6 129 rfl rfl
  | 69, _ => mm_tbk mm_t6 131 rfl rfl
  | 70, _ => mm_tbk mm_t6 133 rfl rfl
  | 71, _ => mm_tbk mm_t6 135 rfl rfl
  | 72, _ => mm_tbk mm_t6 137 rfl rfl
  | 73, _ => mm_tbk mm_t6 139 rfl rfl
  | 74, _ => mm_tbk mm_t6 141 rfl rfl
  | 75, _ => mm_tbk mm_t6 143 rfl rfl
  | 76, _ => mm_tbk mm_t6 145 rfl rfl
  | n + 77, h => absurd h (by omega)
theorem cls_X12 : mm_cls 12 RX12 TX12 77 tyX12 := ⟨rfl, mm_cls_in lay_X12, tyX12_ok, nmX12⟩
set_option maxRecDepth 20000 in
theorem fl_X11_10 : mm_fl RX11 10 11 0 (tyX11 0) true := ⟨RX11, TX11, 18, tyX11, cls_X11, Nat.le_of_ble_eq_true rfl, mm_tbk mm_t2 163 rfl rfl, rfl, rfl⟩
set_option maxRecDepth 20000 in
theorem fl_X11_20 : mm_fl RX11 20 11 1 (tyX11 1) true := ⟨RX11, TX11, 18, tyX11, cls_X11, Nat.le_of_ble_eq_true rfl, mm_tbk mm_t2 164 rfl rfl, rfl, rfl⟩
set_option maxRecDepth 20000 in
theorem fl_X11_25 : mm_fl RX11 25 11 2 (tyX11 2) true := ⟨RX11, TX11, 18, tyX11, cls_X11, Nat.le_of_ble_eq_true rfl, mm_tbk mm_t2 165 rfl rfl, rfl, rfl⟩
set_option maxRecDepth 20000 in
theorem fl_X11_30 : mm_fl RX11 30 11 3 (tyX11 3) true := ⟨RX11, TX11, 18, tyX11, cls_X11, Nat.le_of_ble_eq_true rfl, mm_tbk mm_t2 166 rfl rfl, rfl, rfl⟩
set_option maxRecDepth 20000 in
theorem fl_X11_35 : mm_fl RX11 35 11 4 (tyX11 4) true := ⟨RX11, TX11, 18, tyX11, cls_X11, Nat.le_of_ble_eq_true rfl, mm_tbk mm_t2 167 rfl rfl, rfl, rfl⟩
set_option maxRecDepth 20000 in
theorem fl_X11_39 : mm_fl RX11 39 11 5 (tyX11 5) true := ⟨RX11, TX11, 18, tyX11, cls_X11, Nat.le_of_ble_eq_true rfl, mm_tbk mm_t2 168 rfl rfl, rfl, rfl⟩
set_option maxRecDepth 20000 in
theorem fl_X11_43 : mm_fl RX11 43 11 6 (tyX11 6) true := ⟨RX11, TX11, 18, tyX11, cls_X11, Nat.le_of_ble_eq_true rfl, mm_tbk mm_t2 169 rfl rfl, rfl, rfl⟩
set_option maxRecDepth 20000 in
theorem fl_X11_49 : mm_fl RX11 49 11 7 (tyX11 7) true := ⟨RX11, TX11, 18, tyX11, cls_X11, Nat.le_of_ble_eq_true rfl, mm_tbk mm_t2 170 rfl rfl, rfl, rfl⟩
set_option maxRecDepth 20000 in
theorem fl_X11_56 : mm_fl RX11 56 11 8 (tyX11 8) true := ⟨RX11, TX11, 18, tyX11, cls_X11, Nat.le_of_ble_eq_true rfl, mm_tbk mm_t2 171 rfl rfl, rfl, rfl⟩
set_option maxRecDepth 20000 in
theorem fl_X11_63 : mm_fl RX11 63 11 9 (tyX11 9) true := ⟨RX11, TX11, 18, tyX11, cls_X11, Nat.le_of_ble_eq_true rfl, mm_tbk mm_t2 172 rfl rfl, rfl, rfl⟩
set_option maxRecDepth 20000 in
theorem fl_X11_70 : mm_fl RX11 70 11 10 (tyX11 10) true := ⟨RX11, TX11, 18, tyX11, cls_X11, Nat.le_of_ble_eq_true rfl, mm_tbk mm_t2 173 rfl rfl, rfl, rfl⟩
set_option maxRecDepth 20000 in
theorem fl_X11_77 : mm_fl RX11 77 11 11 (tyX11 11) true := ⟨RX11, TX11, 18, tyX11, cls_X11, Nat.le_of_ble_eq_true rfl, mm_tbk mm_t2 174 rfl rfl, rfl, rfl⟩
set_option maxRecDepth 20000 in
theorem fl_X11_81 : mm_fl RX11 81 11 12 (tyX11 12) true := ⟨RX11, TX11, 18, tyX11, cls_X11, Nat.le_of_ble_eq_true rfl, mm_tbk mm_t2 175 rfl rfl, rfl, rfl⟩
set_option maxRecDepth 20000 in
theorem fl_X11_85 : mm_fl RX11 85 11 13 (tyX11 13) true := ⟨RX11, TX11, 18, tyX11, cls_X11, Nat.le_of_ble_eq_true rfl, mm_tbk mm_t2 176 rfl rfl, rfl, rfl⟩
set_option maxRecDepth 20000 in
theorem fl_X11_94 : mm_fl RX11 94 11 14 (tyX11 14) true := ⟨RX11, TX11, 18, tyX11, cls_X11, Nat.le_of_ble_eq_true rfl, mm_tbk mm_t2 177 rfl rfl, rfl, rfl⟩
set_option maxRecDepth 20000 in
theorem fl_X11_98 : mm_fl RX11 98 11 15 (tyX11 15) false := ⟨RX11, TX11, 18, tyX11, cls_X11, Nat.le_of_ble_eq_true rfl, mm_tbk mm_t2 178 rfl rfl, rfl, rfl⟩
set_option maxRecDepth 20000 in
theorem fl_X11_102 : mm_fl RX11 102 11 16 (tyX11 16) false := ⟨RX11, TX11, 18, tyX11, cls_X11, Nat.le_of_ble_eq_true rfl, mm_tbk mm_t2 179 rfl rfl, rfl, rfl⟩
set_option maxRecDepth 20000 in
theorem fl_X11_105 : mm_fl RX11 105 11 17 (tyX11 17) false := ⟨RX11, TX11, 18, tyX11, cls_X11, Nat.le_of_ble_eq_true rfl, mm_tbk mm_t2 180 rfl rfl, rfl, rfl⟩
set_option maxRecDepth 20000 in
theorem fl_X11_119 : mm_fl RX11 119 6 8 (tyX6 8) false := ⟨RX6, TX6, 9, tyX6, cls_X6, Nat.le_of_ble_eq_true rfl, mm_tbk mm_t1 60 rfl rfl, rfl, rfl⟩
set_option maxRecDepth 20000 in
theorem fl_X11_135 : mm_fl RX11 135 6 4 (tyX6 4) true := ⟨RX6, TX6, 9, tyX6, cls_X6, Nat.le_of_ble_eq_true rfl, mm_tbk mm_t1 52 rfl rfl, rfl, rfl⟩
set_option maxRecDepth 20000 in
theorem fl_X11_138 : mm_fl RX11 138 6 5 (tyX6 5) true := ⟨RX6, TX6, 9, tyX6, cls_X6, Nat.le_of_ble_eq_true rfl, mm_tbk mm_t1 55 rfl rfl, rfl, rfl⟩
set_option maxRecDepth 20000 in
theorem fl_X11_144 : mm_fl RX11 144 6 6 (tyX6 6) true := ⟨RX6, TX6, 9, tyX6, cls_X6, Nat.le_of_ble_eq_true rfl, mm_tbk mm_t1 57 rfl rfl, rfl, rfl⟩
set_option maxRecDepth 20000 in
theorem fl_X11_158 : mm_fl RX11 158 0 0 (tyX0 0) true := ⟨RX0, TX0, 5, tyX0, cls_X0, Nat.le_of_ble_eq_true rfl, mm_tbk mm_t1 89 rfl rfl, rfl, rfl⟩
set_option maxRecDepth 20000 in
theorem fl_X11_161 : mm_fl RX11 161 0 2 (tyX0 2) true := ⟨RX0, TX0, 5, tyX0, cls_X0, Nat.le_of_ble_eq_true rfl, mm_tbk mm_t1 92 rfl rfl, rfl, rfl⟩
set_option maxRecDepth 20000 in
theorem fl_X11_191 : mm_fl RX11 191 2 6 (tyX2 6) false := ⟨RX2, TX2, 7, tyX2, cls_X2, Nat.le_of_ble_eq_true rfl, mm_tbk mm_t1 235 rfl rfl, rfl, rfl⟩
set_option maxRecDepth 20000 in
theorem fl_X11_192 : mm_fl RX11 192 2 0 (tyX2 0) true := ⟨RX2, TX2, 7, tyX2, cls_X2, Nat.le_of_ble_eq_true rfl, mm_tbk mm_t1 228 rfl rfl, rfl, rfl⟩
set_option maxRecDepth 20000 in
theorem fl_X11_206 : mm_fl RX11 206 3 0 (tyX3 0) false := ⟨RX3, TX3, 2, tyX3, cls_X3, Nat.le_of_ble_eq_true rfl, mm_tbk mm_t2 19 rfl rfl, rfl, rfl⟩
set_option maxRecDepth 20000 in
theorem fl_X11_210 : mm_fl RX11 210 3 1 (tyX3 1) false := ⟨RX3, TX3, 2, tyX3, cls_X3, Nat.le_of_ble_eq_true rfl, mm_tbk mm_t2 22 rfl rfl, rfl, rfl⟩
set_option maxRecDepth 20000 in
theorem fl_X11_229 : mm_fl RX11 229 8 2 (tyX8 2) false := ⟨RX8, TX8, 6, tyX8, cls_X8, Nat.le_of_ble_eq_true rfl, mm_tbk mm_t2 38 rfl rfl, rfl, rfl⟩
set_option maxRecDepth 20000 in
theorem fl_X11_237 : mm_fl RX11 237 5 5 (tyX5 5) false := ⟨RX5, TX5, 6, tyX5, cls_X5, Nat.le_of_ble_eq_true rfl, mm_tbk mm_t1 160 rfl rfl, rfl, rfl⟩
set_option maxRecDepth 20000 in
theorem fl_X11_243 : mm_fl RX11 243 8 1 (tyX8 1) true := ⟨RX8, TX8, 6, tyX8, cls_X8, Nat.le_of_ble_eq_true rfl, mm_tbk mm_t2 36 rfl rfl, rfl, rfl⟩
set_option maxRecDepth 20000 in
theorem fl_X11_246 : mm_fl RX11 246 8 3 (tyX8 3) false := ⟨RX8, TX8, 6, tyX8, cls_X8, Nat.le_of_ble_eq_true rfl, mm_tbk mm_t2 40 rfl rfl, rfl, rfl⟩
set_option maxRecDepth 20000 in
theorem fl_X11_258 : mm_fl RX11 258 9 7 (tyX9 7) false := ⟨RX9, TX9, 8, tyX9, cls_X9, Nat.le_of_ble_eq_true rfl, mm_tbk mm_t1 130 rfl rfl, rfl, rfl⟩
set_option maxRecDepth 20000 in
theorem fl_X11_268 : mm_fl RX11 268 9 6 (tyX9 6) true := ⟨RX9, TX9, 8, tyX9, cls_X9, Nat.le_of_ble_eq_true rfl, mm_tbk mm_t1 127 rfl rfl, rfl, rfl⟩
set_option maxRecDepth 20000 in
theorem fl_X11_278 : mm_fl RX11 278 10 4 (tyX10 4) true := ⟨RX10, TX10, 13, tyX10, cls_X10, Nat.le_of_ble_eq_true rfl, mm_tbk mm_t1 183 rfl rfl, rfl, rfl⟩
set_option maxRecDepth 20000 in
theorem fl_X11_281 : mm_fl RX11 281 10 5 (tyX10 5) true := ⟨RX10, TX10, 13, tyX10, cls_X10, Nat.le_of_ble_eq_true rfl, mm_tbk mm_t1 185 rfl rfl, rfl, rfl⟩
set_option maxRecDepth 20000 in
theorem fl_X11_291 : mm_fl RX11 291 10 6 (tyX10 6) true := ⟨RX10, TX10, 13, tyX10, cls_X10, Nat.le_of_ble_eq_true rfl, mm_tbk mm_t1 187 rfl rfl, rfl, rfl⟩
set_option maxRecDepth 20000 in
theorem fl_X11_309 : mm_fl RX11 309 4 9 (tyX4 9) false := ⟨RX4, TX4, 12, tyX4, cls_X4, Nat.le_of_ble_eq_true rfl, mm_tbk mm_t2 72 rfl rfl, rfl, rfl⟩
set_option maxRecDepth 20000 in
theorem fl_X11_313 : mm_fl RX11 313 4 10 (tyX4 10) false := ⟨RX4, TX4, 12, tyX4, cls_X4, Nat.le_of_ble_eq_true rfl, mm_tbk mm_t2 74 rfl rfl, rfl, rfl⟩
set_option maxRecDepth 20000 in
theorem fl_X11_316 : mm_fl RX11 316 4 11 (tyX4 11) false := ⟨RX4, TX4, 12, tyX4, cls_X4, Nat.le_of_ble_eq_true rfl, mm_tbk mm_t2 76 rfl rfl, rfl, rfl⟩
set_option maxRecDepth 20000 in
theorem fl_X11_339 : mm_fl RX11 339 6 1 (tyX6 1) true := ⟨RX6, TX6, 9, tyX6, cls_X6, Nat.le_of_ble_eq_true rfl, mm_tbk mm_t1 45 rfl rfl, rfl, rfl⟩
set_option maxRecDepth 20000 in
theorem fl_X11_342 : mm_fl RX11 342 1 7 (tyX1 7) false := ⟨RX1, TX1, 8, tyX1, cls_X1, Nat.le_of_ble_eq_true rfl, mm_tbk mm_t2 142 rfl rfl, rfl, rfl⟩
set_option maxRecDepth 20000 in
theorem fl_X11_347 : mm_fl RX11 347 1 5 (tyX1 5) true := ⟨RX1, TX1, 8, tyX1, cls_X1, Nat.le_of_ble_eq_true rfl, mm_tbk mm_t2 138 rfl rfl, rfl, rfl⟩
set_option maxRecDepth 20000 in
theorem fl_X11_350 : mm_fl RX11 350 1 6 (tyX1 6) true := ⟨RX1, TX1, 8, tyX1, cls_X1, Nat.le_of_ble_eq_true rfl, mm_tbk mm_t2 140 rfl rfl, rfl, rfl⟩
set_option maxRecDepth 20000 in
theorem fl_X11_380 : mm_fl RX11 380 6 2 (tyX6 2) true := ⟨RX6, TX6, 9, tyX6, cls_X6, Nat.le_of_ble_eq_true rfl, mm_tbk mm_t1 47 rfl rfl, rfl, rfl⟩
set_option maxRecDepth 20000 in
theorem fl_X11_383 : mm_fl RX11 383 6 3 (tyX6 3) true := ⟨RX6, TX6, 9, tyX6, cls_X6, Nat.le_of_ble_eq_true rfl, mm_tbk mm_t1 49 rfl rfl, rfl, rfl⟩
set_option maxRecDepth 20000 in
theorem fl_X11_415 : mm_fl RX11 415 9 0 (tyX9 0) true := ⟨RX9, TX9, 8, tyX9, cls_X9, Nat.le_of_ble_eq_true rfl, mm_tbk mm_t1 114 rfl rfl, rfl, rfl⟩
set_option maxRecDepth 20000 in
theorem fl_X11_418 : mm_fl RX11 418 9 3 (tyX9 3) true := ⟨RX9, TX9, 8, tyX9, cls_X9, Nat.le_of_ble_eq_true rfl, mm_tbk mm_t1 122 rfl rfl, rfl, rfl⟩
set_option maxRecDepth 20000 in
theorem fl_X11_421 : mm_fl RX11 421 9 2 (tyX9 2) true := ⟨RX9, TX9, 8, tyX9, cls_X9, Nat.le_of_ble_eq_true rfl, mm_tbk mm_t1 119 rfl rfl, rfl, rfl⟩
set_option maxRecDepth 20000 in
theorem fl_X0_9 : mm_fl RX0 9 0 0 (tyX0 0) true := ⟨RX0, TX0, 5, tyX0, cls_X0, Nat.le_of_ble_eq_true rfl, mm_tbk mm_t1 88 rfl rfl, rfl, rfl⟩
set_option maxRecDepth 20000 in
theorem fl_X0_15 : mm_fl RX0 15 0 1 (tyX0 1) true := ⟨RX0, TX0, 5, tyX0, cls_X0, Nat.le_of_ble_eq_true rfl, mm_tbk mm_t1 90 rfl rfl, rfl, rfl⟩
set_option maxRecDepth 20000 in
theorem fl_X0_19 : mm_fl RX0 19 0 2 (tyX0 2) true := ⟨RX0, TX0, 5, tyX0, cls_X0, Nat.le_of_ble_eq_true rfl, mm_tbk mm_t1 91 rfl rfl, rfl, rfl⟩
set_option maxRecDepth 20000 in
theorem fl_X0_22 : mm_fl RX0 22 0 3 (tyX0 3) true := ⟨RX0, TX0, 5, tyX0, cls_X0, Nat.le_of_ble_eq_true rfl, mm_tbk mm_t1 93 rfl rfl, rfl, rfl⟩
set_option maxRecDepth 20000 in
theorem fl_X0_25 : mm_fl RX0 25 0 4 (tyX0 4) true := ⟨RX0, TX0, 5, tyX0, cls_X0, Nat.le_of_ble_eq_true rfl, mm_tbk mm_t1 94 rfl rfl, rfl, rfl⟩
set_option maxRecDepth 20000 in
theorem fl_X1_9 : mm_fl RX1 9 1 0 (tyX1 0) true := ⟨RX1, TX1, 8, tyX1, cls_X1, Nat.le_of_ble_eq_true rfl, mm_tbk mm_t2 132 rfl rfl, rfl, rfl⟩
set_option maxRecDepth 20000 in
theorem fl_X1_15 : mm_fl RX1 15 1 1 (tyX1 1) true := ⟨RX1, TX1, 8, tyX1, cls_X1, Nat.le_of_ble_eq_true rfl, mm_tbk mm_t2 133 rfl rfl, rfl, rfl⟩
set_option maxRecDepth 20000 in
theorem fl_X1_18 : mm_fl RX1 18 1 2 (tyX1 2) true := ⟨RX1, TX1, 8, tyX1, cls_X1, Nat.le_of_ble_eq_true rfl, mm_tbk mm_t2 134 rfl rfl, rfl, rfl⟩
set_option maxRecDepth 20000 in
theorem fl_X1_21 : mm_fl RX1 21 1 3 (tyX1 3) true := ⟨RX1, TX1, 8, tyX1, cls_X1, Nat.le_of_ble_eq_true rfl, mm_tbk mm_t2 135 rfl rfl, rfl, rfl⟩
set_option maxRecDepth 20000 in
theorem fl_X1_24 : mm_fl RX1 24 1 4 (tyX1 4) true := ⟨RX1, TX1, 8, tyX1, cls_X1, Nat.le_of_ble_eq_true rfl, mm_tbk mm_t2 136 rfl rfl, rfl, rfl⟩
set_option maxRecDepth 20000 in
theorem fl_X1_27 : mm_fl RX1 27 1 5 (tyX1 5) true := ⟨RX1, TX1, 8, tyX1, cls_X1, Nat.le_of_ble_eq_true rfl, mm_tbk mm_t2 137 rfl rfl, rfl, rfl⟩
set_option maxRecDepth 20000 in
theorem fl_X1_30 : mm_fl RX1 30 1 6 (tyX1 6) true := ⟨RX1, TX1, 8, tyX1, cls_X1, Nat.le_of_ble_eq_true rfl, mm_tbk mm_t2 139 rfl rfl, rfl, rfl⟩
set_option maxRecDepth 20000 in
theorem fl_X1_33 : mm_fl RX1 33 1 7 (tyX1 7) false := ⟨RX1, TX1, 8, tyX1, cls_X1, Nat.le_of_ble_eq_true rfl, mm_tbk mm_t2 141 rfl rfl, rfl, rfl⟩
set_option maxRecDepth 20000 in
theorem fl_X2_9 : mm_fl RX2 9 2 0 (tyX2 0) true := ⟨RX2, TX2, 7, tyX2, cls_X2, Nat.le_of_ble_eq_true rfl, mm_tbk mm_t1 227 rfl rfl, rfl, rfl⟩
set_option maxRecDepth 20000 in
theorem fl_X2_15 : mm_fl RX2 15 2 1 (tyX2 1) true := ⟨RX2, TX2, 7, tyX2, cls_X2, Nat.le_of_ble_eq_true rfl, mm_tbk mm_t1 229 rfl rfl, rfl, rfl⟩
set_option maxRecDepth 20000 in
theorem fl_X2_18 : mm_fl RX2 18 2 2 (tyX2 2) true := ⟨RX2, TX2, 7, tyX2, cls_X2, Nat.le_of_ble_eq_true rfl, mm_tbk mm_t1 230 rfl rfl, rfl, rfl⟩
set_option maxRecDepth 20000 in
theorem fl_X2_21 : mm_fl RX2 21 2 3 (tyX2 3) true := ⟨RX2, TX2, 7, tyX2, cls_X2, Nat.le_of_ble_eq_true rfl, mm_tbk mm_t1 231 rfl rfl, rfl, rfl⟩
set_option maxRecDepth 20000 in
theorem fl_X2_25 : mm_fl RX2 25 2 4 (tyX2 4) false := ⟨RX2, TX2, 7, tyX2, cls_X2, Nat.le_of_ble_eq_true rfl, mm_tbk mm_t1 232 rfl rfl, rfl, rfl⟩
set_option maxRecDepth 20000 in
theorem fl_X2_29 : mm_fl RX2 29 2 5 (tyX2 5) false := ⟨RX2, TX2, 7, tyX2, cls_X2, Nat.le_of_ble_eq_true rfl, mm_tbk mm_t1 233 rfl rfl, rfl, rfl⟩
set_option maxRecDepth 20000 in
theorem fl_X2_32 : mm_fl RX2 32 2 6 (tyX2 6) false := ⟨RX2, TX2, 7, tyX2, cls_X2, Nat.le_of_ble_eq_true rfl, mm_tbk mm_t1 234 rfl rfl, rfl, rfl⟩
set_option maxRecDepth 20000 in
theorem fl_X2_41 : mm_fl RX2 41 6 5 (tyX6 5) true := ⟨RX6, TX6, 9, tyX6, cls_X6, Nat.le_of_ble_eq_true rfl, mm_tbk mm_t1 54 rfl rfl, rfl, rfl⟩
set_option maxRecDepth 20000 in
theorem fl_X2_44 : mm_fl RX2 44 6 4 (tyX6 4) true := ⟨RX6, TX6, 9, tyX6, cls_X6, Nat.le_of_ble_eq_true rfl, mm_tbk mm_t1 51 rfl rfl, rfl, rfl⟩
set_option maxRecDepth 20000 in
theorem fl_X2_52 : mm_fl RX2 52 6 0 (tyX6 0) true := ⟨RX6, TX6, 9, tyX6, cls_X6, Nat.le_of_ble_eq_true rfl, mm_tbk mm_t1 43 rfl rfl, rfl, rfl⟩
set_option maxRecDepth 20000 in
theorem fl_X3_7 : mm_fl RX3 7 3 0 (tyX3 0) false := ⟨RX3, TX3, 2, tyX3, cls_X3, Nat.le_of_ble_eq_true rfl, mm_tbk mm_t2 17 rfl rfl, rfl, rfl⟩
set_option maxRecDepth 20000 in
theorem fl_X3_13 : mm_fl RX3 13 3 1 (tyX3 1) false := ⟨RX3, TX3, 2, tyX3, cls_X3, Nat.le_of_ble_eq_true rfl, mm_tbk mm_t2 20 rfl rfl, rfl, rfl⟩
set_option maxRecDepth 20000 in
theorem fl_X4_11 : mm_fl RX4 11 4 0 (tyX4 0) true := ⟨RX4, TX4, 12, tyX4, cls_X4, Nat.le_of_ble_eq_true rfl, mm_tbk mm_t2 62 rfl rfl, rfl, rfl⟩
set_option maxRecDepth 20000 in
theorem fl_X4_15 : mm_fl RX4 15 4 1 (tyX4 1) true := ⟨RX4, TX4, 12, tyX4, cls_X4, Nat.le_of_ble_eq_true rfl, mm_tbk mm_t2 63 rfl rfl, rfl, rfl⟩
set_option maxRecDepth 20000 in
theorem fl_X4_18 : mm_fl RX4 18 4 2 (tyX4 2) true := ⟨RX4, TX4, 12, tyX4, cls_X4, Nat.le_of_ble_eq_true rfl, mm_tbk mm_t2 64 rfl rfl, rfl, rfl⟩
set_option maxRecDepth 20000 in
theorem fl_X4_21 : mm_fl RX4 21 4 3 (tyX4 3) true := ⟨RX4, TX4, 12, tyX4, cls_X4, Nat.le_of_ble_eq_true rfl, mm_tbk mm_t2 65 rfl rfl, rfl, rfl⟩
set_option maxRecDepth 20000 in
theorem fl_X4_24 : mm_fl RX4 24 4 4 (tyX4 4) true := ⟨RX4, TX4, 12, tyX4, cls_X4, Nat.le_of_ble_eq_true rfl, mm_tbk mm_t2 66 rfl rfl, rfl, rfl⟩
set_option maxRecDepth 20000 in
theorem fl_X4_27 : mm_fl RX4 27 4 5 (tyX4 5) true := ⟨RX4, TX4, 12, tyX4, cls_X4, Nat.le_of_ble_eq_true rfl, mm_tbk mm_t2 67 rfl rfl, rfl, rfl⟩
set_option maxRecDepth 20000 in
theorem fl_X4_31 : mm_fl RX4 31 4 6 (tyX4 6) true := ⟨RX4, TX4, 12, tyX4, cls_X4, Nat.le_of_ble_eq_true rfl, mm_tbk mm_t2 68 rfl rfl, rfl, rfl⟩
set_option maxRecDepth 20000 in
theorem fl_X4_34 : mm_fl RX4 34 4 7 (tyX4 7) false := ⟨RX4, TX4, 12, tyX4, cls_X4, Nat.le_of_ble_eq_true rfl, mm_tbk mm_t2 69 rfl rfl, rfl, rfl⟩
set_option maxRecDepth 20000 in
theorem fl_X4_38 : mm_fl RX4 38 4 8 (tyX4 8) false := ⟨RX4, TX4, 12, tyX4, cls_X4, Nat.le_of_ble_eq_true rfl, mm_tbk mm_t2 70 rfl rfl, rfl, rfl⟩
set_option maxRecDepth 20000 in
theorem fl_X4_41 : mm_fl RX4 41 4 9 (tyX4 9) false := ⟨RX4, TX4, 12, tyX4, cls_X4, Nat.le_of_ble_eq_true rfl, mm_tbk mm_t2 71 rfl rfl, rfl, rfl⟩
set_option maxRecDepth 20000 in
theorem fl_X4_45 : mm_fl RX4 45 4 10 (tyX4 10) false := ⟨RX4, TX4, 12, tyX4, cls_X4, Nat.le_of_ble_eq_true rfl, mm_tbk mm_t2 73 rfl rfl, rfl, rfl⟩
set_option maxRecDepth 20000 in
theorem fl_X4_48 : mm_fl RX4 48 4 11 (tyX4 11) false := ⟨RX4, TX4, 12, tyX4, cls_X4, Nat.le_of_ble_eq_true rfl, mm_tbk mm_t2 75 rfl rfl, rfl, rfl⟩
set_option maxRecDepth 20000 in
theorem fl_X5_9 : mm_fl RX5 9 5 0 (tyX5 0) true := ⟨RX5, TX5, 6, tyX5, cls_X5, Nat.le_of_ble_eq_true rfl, mm_tbk mm_t1 154 rfl rfl, rfl, rfl⟩
set_option maxRecDepth 20000 in
theorem fl_X5_15 : mm_fl RX5 15 5 1 (tyX5 1) true := ⟨RX5, TX5, 6, tyX5, cls_X5, Nat.le_of_ble_eq_true rfl, mm_tbk mm_t1 155 rfl rfl, rfl, rfl⟩
set_option maxRecDepth 20000 in
theorem fl_X5_18 : mm_fl RX5 18 5 2 (tyX5 2) true := ⟨RX5, TX5, 6, tyX5, cls_X5, Nat.le_of_ble_eq_true rfl, mm_tbk mm_t1 156 rfl rfl, rfl, rfl⟩
set_option maxRecDepth 20000 in
theorem fl_X5_21 : mm_fl RX5 21 5 3 (tyX5 3) true := ⟨RX5, TX5, 6, tyX5, cls_X5, Nat.le_of_ble_eq_true rfl, mm_tbk mm_t1 157 rfl rfl, rfl, rfl⟩
set_option maxRecDepth 20000 in
theorem fl_X5_24 : mm_fl RX5 24 5 4 (tyX5 4) true := ⟨RX5, TX5, 6, tyX5, cls_X5, Nat.le_of_ble_eq_true rfl, mm_tbk mm_t1 158 rfl rfl, rfl, rfl⟩
set_option maxRecDepth 20000 in
theorem fl_X5_27 : mm_fl RX5 27 5 5 (tyX5 5) false := ⟨RX5, TX5, 6, tyX5, cls_X5, Nat.le_of_ble_eq_true rfl, mm_tbk mm_t1 159 rfl rfl, rfl, rfl⟩
set_option maxRecDepth 20000 in
theorem fl_X6_9 : mm_fl RX6 9 6 0 (tyX6 0) true := ⟨RX6, TX6, 9, tyX6, cls_X6, Nat.le_of_ble_eq_true rfl, mm_tbk mm_t1 42 rfl rfl, rfl, rfl⟩
set_option maxRecDepth 20000 in
theorem fl_X6_15 : mm_fl RX6 15 6 1 (tyX6 1) true := ⟨RX6, TX6, 9, tyX6, cls_X6, Nat.le_of_ble_eq_true rfl, mm_tbk mm_t1 44 rfl rfl, rfl, rfl⟩
set_option maxRecDepth 20000 in
theorem fl_X6_18 : mm_fl RX6 18 6 2 (tyX6 2) true := ⟨RX6, TX6, 9, tyX6, cls_X6, Nat.le_of_ble_eq_true rfl, mm_tbk mm_t1 46 rfl rfl, rfl, rfl⟩
set_option maxRecDepth 20000 in
theorem fl_X6_21 : mm_fl RX6 21 6 3 (tyX6 3) true := ⟨RX6, TX6, 9, tyX6, cls_X6, Nat.le_of_ble_eq_true rfl, mm_tbk mm_t1 48 rfl rfl, rfl, rfl⟩
set_option maxRecDepth 20000 in
theorem fl_X6_24 : mm_fl RX6 24 6 4 (tyX6 4) true := ⟨RX6, TX6, 9, tyX6, cls_X6, Nat.le_of_ble_eq_true rfl, mm_tbk mm_t1 50 rfl rfl, rfl, rfl⟩
set_option maxRecDepth 20000 in
theorem fl_X6_27 : mm_fl RX6 27 6 5 (tyX6 5) true := ⟨RX6, TX6, 9, tyX6, cls_X6, Nat.le_of_ble_eq_true rfl, mm_tbk mm_t1 53 rfl rfl, rfl, rfl⟩
set_option maxRecDepth 20000 in
theorem fl_X6_31 : mm_fl RX6 31 6 6 (tyX6 6) true := ⟨RX6, TX6, 9, tyX6, cls_X6, Nat.le_of_ble_eq_true rfl, mm_tbk mm_t1 56 rfl rfl, rfl, rfl⟩
set_option maxRecDepth 20000 in
theorem fl_X6_34 : mm_fl RX6 34 6 7 (tyX6 7) true := ⟨RX6, TX6, 9, tyX6, cls_X6, Nat.le_of_ble_eq_true rfl, mm_tbk mm_t1 58 rfl rfl, rfl, rfl⟩
set_option maxRecDepth 20000 in
theorem fl_X6_37 : mm_fl RX6 37 6 8 (tyX6 8) false := ⟨RX6, TX6, 9, tyX6, cls_X6, Nat.le_of_ble_eq_true rfl, mm_tbk mm_t1 59 rfl rfl, rfl, rfl⟩
set_option maxRecDepth 20000 in
theorem fl_X7_10 : mm_fl RX7 10 7 0 (tyX7 0) true := ⟨RX7, TX7, 5, tyX7, cls_X7, Nat.le_of_ble_eq_true rfl, mm_tbk mm_t2 110 rfl rfl, rfl, rfl⟩
set_option maxRecDepth 20000 in
theorem fl_X7_16 : mm_fl RX7 16 7 1 (tyX7 1) false := ⟨RX7, TX7, 5, tyX7, cls_X7, Nat.le_of_ble_eq_true rfl, mm_tbk mm_t2 111 rfl rfl, rfl, rfl⟩
set_option maxRecDepth 20000 in
theorem fl_X7_20 : mm_fl RX7 20 7 2 (tyX7 2) false := ⟨RX7, TX7, 5, tyX7, cls_X7, Nat.le_of_ble_eq_true rfl, mm_tbk mm_t2 112 rfl rfl, rfl, rfl⟩
set_option maxRecDepth 20000 in
theorem fl_X7_23 : mm_fl RX7 23 7 3 (tyX7 3) false := ⟨RX7, TX7, 5, tyX7, cls_X7, Nat.le_of_ble_eq_true rfl, mm_tbk mm_t2 113 rfl rfl, rfl, rfl⟩
set_option maxRecDepth 20000 in
theorem fl_X7_26 : mm_fl RX7 26 7 4 (tyX7 4) false := ⟨RX7, TX7, 5, tyX7, cls_X7, Nat.le_of_ble_eq_true rfl, mm_tbk mm_t2 114 rfl rfl, rfl, rfl⟩
set_option maxRecDepth 20000 in
theorem fl_X7_32 : mm_fl RX7 32 3 0 (tyX3 0) false := ⟨RX3, TX3, 2, tyX3, cls_X3, Nat.le_of_ble_eq_true rfl, mm_tbk mm_t2 18 rfl rfl, rfl, rfl⟩
set_option maxRecDepth 20000 in
theorem fl_X7_36 : mm_fl RX7 36 3 1 (tyX3 1) false := ⟨RX3, TX3, 2, tyX3, cls_X3, Nat.le_of_ble_eq_true rfl, mm_tbk mm_t2 21 rfl rfl, rfl, rfl⟩
set_option maxRecDepth 20000 in
theorem fl_X8_9 : mm_fl RX8 9 8 0 (tyX8 0) true := ⟨RX8, TX8, 6, tyX8, cls_X8, Nat.le_of_ble_eq_true rfl, mm_tbk mm_t2 34 rfl rfl, rfl, rfl⟩
set_option maxRecDepth 20000 in
theorem fl_X8_15 : mm_fl RX8 15 8 1 (tyX8 1) true := ⟨RX8, TX8, 6, tyX8, cls_X8, Nat.le_of_ble_eq_true rfl, mm_tbk mm_t2 35 rfl rfl, rfl, rfl⟩
set_option maxRecDepth 20000 in
theorem fl_X8_18 : mm_fl RX8 18 8 2 (tyX8 2) false := ⟨RX8, TX8, 6, tyX8, cls_X8, Nat.le_of_ble_eq_true rfl, mm_tbk mm_t2 37 rfl rfl, rfl, rfl⟩
set_option maxRecDepth 20000 in
theorem fl_X8_22 : mm_fl RX8 22 8 3 (tyX8 3) false := ⟨RX8, TX8, 6, tyX8, cls_X8, Nat.le_of_ble_eq_true rfl, mm_tbk mm_t2 39 rfl rfl, rfl, rfl⟩
set_option maxRecDepth 20000 in
theorem fl_X8_25 : mm_fl RX8 25 8 4 (tyX8 4) false := ⟨RX8, TX8, 6, tyX8, cls_X8, Nat.le_of_ble_eq_true rfl, mm_tbk mm_t2 41 rfl rfl, rfl, rfl⟩
set_option maxRecDepth 20000 in
theorem fl_X8_28 : mm_fl RX8 28 8 5 (tyX8 5) false := ⟨RX8, TX8, 6, tyX8, cls_X8, Nat.le_of_ble_eq_true rfl, mm_tbk mm_t2 42 rfl rfl, rfl, rfl⟩
set_option maxRecDepth 20000 in
theorem fl_X9_9 : mm_fl RX9 9 9 0 (tyX9 0) true := ⟨RX9, TX9, 8, tyX9, cls_X9, Nat.le_of_ble_eq_true rfl, mm_tbk mm_t1 112 rfl rfl, rfl, rfl⟩
set_option maxRecDepth 20000 in
theorem fl_X9_15 : mm_fl RX9 15 9 1 (tyX9 1) true := ⟨RX9, TX9, 8, tyX9, cls_X9, Nat.le_of_ble_eq_true rfl, mm_tbk mm_t1 115 rfl rfl, rfl, rfl⟩
set_option maxRecDepth 20000 in
theorem fl_X9_18 : mm_fl RX9 18 9 2 (tyX9 2) true := ⟨RX9, TX9, 8, tyX9, cls_X9, Nat.le_of_ble_eq_true rfl, mm_tbk mm_t1 117 rfl rfl, rfl, rfl⟩
set_option maxRecDepth 20000 in
theorem fl_X9_21 : mm_fl RX9 21 9 3 (tyX9 3) true := ⟨RX9, TX9, 8, tyX9, cls_X9, Nat.le_of_ble_eq_true rfl, mm_tbk mm_t1 120 rfl rfl, rfl, rfl⟩
set_option maxRecDepth 20000 in
theorem fl_X9_24 : mm_fl RX9 24 9 4 (tyX9 4) true := ⟨RX9, TX9, 8, tyX9, cls_X9, Nat.le_of_ble_eq_true rfl, mm_tbk mm_t1 123 rfl rfl, rfl, rfl⟩
set_option maxRecDepth 20000 in
theorem fl_X9_27 : mm_fl RX9 27 9 5 (tyX9 5) true := ⟨RX9, TX9, 8, tyX9, cls_X9, Nat.le_of_ble_eq_true rfl, mm_tbk mm_t1 125 rfl rfl, rfl, rfl⟩
set_option maxRecDepth 20000 in
theorem fl_X9_30 : mm_fl RX9 30 9 6 (tyX9 6) true := ⟨RX9, TX9, 8, tyX9, cls_X9, Nat.le_of_ble_eq_true rfl, mm_tbk mm_t1 126 rfl rfl, rfl, rfl⟩
set_option maxRecDepth 20000 in
theorem fl_X9_33 : mm_fl RX9 33 9 7 (tyX9 7) false := ⟨RX9, TX9, 8, tyX9, cls_X9, Nat.le_of_ble_eq_true rfl, mm_tbk mm_t1 128 rfl rfl, rfl, rfl⟩
set_option maxRecDepth 20000 in
theorem fl_X10_12 : mm_fl RX10 12 10 0 (tyX10 0) true := ⟨RX10, TX10, 13, tyX10, cls_X10, Nat.le_of_ble_eq_true rfl, mm_tbk mm_t1 174 rfl rfl, rfl, rfl⟩
set_option maxRecDepth 20000 in
theorem fl_X10_21 : mm_fl RX10 21 10 1 (tyX10 1) true := ⟨RX10, TX10, 13, tyX10, cls_X10, Nat.le_of_ble_eq_true rfl, mm_tbk mm_t1 176 rfl rfl, rfl, rfl⟩
set_option maxRecDepth 20000 in
theorem fl_X10_28 : mm_fl RX10 28 10 2 (tyX10 2) true := ⟨RX10, TX10, 13, tyX10, cls_X10, Nat.le_of_ble_eq_true rfl, mm_tbk mm_t1 178 rfl rfl, rfl, rfl⟩
set_option maxRecDepth 20000 in
theorem fl_X10_35 : mm_fl RX10 35 10 3 (tyX10 3) true := ⟨RX10, TX10, 13, tyX10, cls_X10, Nat.le_of_ble_eq_true rfl, mm_tbk mm_t1 180 rfl rfl, rfl, rfl⟩
set_option maxRecDepth 20000 in
theorem fl_X10_39 : mm_fl RX10 39 10 4 (tyX10 4) true := ⟨RX10, TX10, 13, tyX10, cls_X10, Nat.le_of_ble_eq_true rfl, mm_tbk mm_t1 182 rfl rfl, rfl, rfl⟩
set_option maxRecDepth 20000 in
theorem fl_X10_43 : mm_fl RX10 43 10 5 (tyX10 5) true := ⟨RX10, TX10, 13, tyX10, cls_X10, Nat.le_of_ble_eq_true rfl, mm_tbk mm_t1 184 rfl rfl, rfl, rfl⟩
set_option maxRecDepth 20000 in
theorem fl_X10_47 : mm_fl RX10 47 10 6 (tyX10 6) true := ⟨RX10, TX10, 13, tyX10, cls_X10, Nat.le_of_ble_eq_true rfl, mm_tbk mm_t1 186 rfl rfl, rfl, rfl⟩
set_option maxRecDepth 20000 in
theorem fl_X10_50 : mm_fl RX10 50 10 7 (tyX10 7) true := ⟨RX10, TX10, 13, tyX10, cls_X10, Nat.le_of_ble_eq_true rfl, mm_tbk mm_t1 188 rfl rfl, rfl, rfl⟩
set_option maxRecDepth 20000 in
theorem fl_X10_53 : mm_fl RX10 53 10 8 (tyX10 8) true := ⟨RX10, TX10, 13, tyX10, cls_X10, Nat.le_of_ble_eq_true rfl, mm_tbk mm_t1 189 rfl rfl, rfl, rfl⟩
set_option maxRecDepth 20000 in
theorem fl_X10_56 : mm_fl RX10 56 10 9 (tyX10 9) true := ⟨RX10, TX10, 13, tyX10, cls_X10, Nat.le_of_ble_eq_true rfl, mm_tbk mm_t1 190 rfl rfl, rfl, rfl⟩
set_option maxRecDepth 20000 in
theorem fl_X10_59 : mm_fl RX10 59 10 10 (tyX10 10) true := ⟨RX10, TX10, 13, tyX10, cls_X10, Nat.le_of_ble_eq_true rfl, mm_tbk mm_t1 191 rfl rfl, rfl, rfl⟩
set_option maxRecDepth 20000 in
theorem fl_X10_62 : mm_fl RX10 62 10 11 (tyX10 11) true := ⟨RX10, TX10, 13, tyX10, cls_X10, Nat.le_of_ble_eq_true rfl, mm_tbk mm_t1 192 rfl rfl, rfl, rfl⟩
set_option maxRecDepth 20000 in
theorem fl_X10_65 : mm_fl RX10 65 10 12 (tyX10 12) true := ⟨RX10, TX10, 13, tyX10, cls_X10, Nat.le_of_ble_eq_true rfl, mm_tbk mm_t1 193 rfl rfl, rfl, rfl⟩
set_option maxRecDepth 20000 in
theorem fl_X10_71 : mm_fl RX10 71 9 7 (tyX9 7) false := ⟨RX9, TX9, 8, tyX9, cls_X9, Nat.le_of_ble_eq_true rfl, mm_tbk mm_t1 129 rfl rfl, rfl, rfl⟩
set_option maxRecDepth 20000 in
theorem fl_X10_99 : mm_fl RX10 99 9 1 (tyX9 1) true := ⟨RX9, TX9, 8, tyX9, cls_X9, Nat.le_of_ble_eq_true rfl, mm_tbk mm_t1 116 rfl rfl, rfl, rfl⟩
set_option maxRecDepth 20000 in
theorem fl_X10_102 : mm_fl RX10 102 9 2 (tyX9 2) true := ⟨RX9, TX9, 8, tyX9, cls_X9, Nat.le_of_ble_eq_true rfl, mm_tbk mm_t1 118 rfl rfl, rfl, rfl⟩
set_option maxRecDepth 20000 in
theorem fl_X10_105 : mm_fl RX10 105 9 4 (tyX9 4) true := ⟨RX9, TX9, 8, tyX9, cls_X9, Nat.le_of_ble_eq_true rfl, mm_tbk mm_t1 124 rfl rfl, rfl, rfl⟩
set_option maxRecDepth 20000 in
theorem fl_X10_115 : mm_fl RX10 115 9 3 (tyX9 3) true := ⟨RX9, TX9, 8, tyX9, cls_X9, Nat.le_of_ble_eq_true rfl, mm_tbk mm_t1 121 rfl rfl, rfl, rfl⟩
set_option maxRecDepth 20000 in
theorem fl_X10_118 : mm_fl RX10 118 9 0 (tyX9 0) true := ⟨RX9, TX9, 8, tyX9, cls_X9, Nat.le_of_ble_eq_true rfl, mm_tbk mm_t1 113 rfl rfl, rfl, rfl⟩
set_option maxRecDepth 20000 in
theorem fl_X12_7 : mm_fl RX12 7 12 3 (tyX12 3) true := ⟨RX12, TX12, 77, tyX12, cls_X12, Nat.le_of_ble_eq_true rfl, mm_tbk mm_t5 159 rfl rfl, rfl, rfl⟩
set_option maxRecDepth 20000 in
theorem fl_X12_13 : mm_fl RX12 13 12 4 (tyX12 4) true := ⟨RX12, TX12, 77, tyX12, cls_X12, Nat.le_of_ble_eq_true rfl, mm_tbk mm_t5 160 rfl rfl, rfl, rfl⟩
set_option maxRecDepth 20000 in
theorem fl_X12_16 : mm_fl RX12 16 12 5 (tyX12 5) true := ⟨RX12, TX12, 77, tyX12, cls_X12, Nat.le_of_ble_eq_true rfl, mm_tbk mm_t5 161 rfl rfl, rfl, rfl⟩
set_option maxRecDepth 20000 in
theorem fl_X12_19 : mm_fl RX12 19 12 6 (tyX12 6) true := ⟨RX12, TX12, 77, tyX12, cls_X12, Nat.le_of_ble_eq_true rfl, mm_tbk mm_t5 162 rfl rfl, rfl, rfl⟩
set_option maxRecDepth 20000 in
theorem fl_X12_22 : mm_fl RX12 22 12 7 (tyX12 7) true := ⟨RX12, TX12, 77, tyX12, cls_X12, Nat.le_of_ble_eq_true rfl, mm_tbk mm_t5 163 rfl rfl, rfl, rfl⟩
set_option maxRecDepth 20000 in
theorem fl_X12_25 : mm_fl RX12 25 12 8 (tyX12 8) true := ⟨RX12, TX12, 77, tyX12, cls_X12, Nat.le_of_ble_eq_true rfl, mm_tbk mm_t5 164 rfl rfl, rfl, rfl⟩
set_option maxRecDepth 20000 in
theorem fl_X12_29 : mm_fl RX12 29 12 9 (tyX12 9) true := ⟨RX12, TX12, 77, tyX12, cls_X12, Nat.le_of_ble_eq_true rfl, mm_tbk mm_t5 165 rfl rfl, rfl, rfl⟩
set_option maxRecDepth 20000 in
theorem fl_X12_32 : mm_fl RX12 32 12 10 (tyX12 10) true := ⟨RX12, TX12, 77, tyX12, cls_X12, Nat.le_of_ble_eq_true rfl, mm_tbk mm_t5 166 rfl rfl, rfl, rfl⟩
set_option maxRecDepth 20000 in
theorem fl_X12_35 : mm_fl RX12 35 12 11 (tyX12 11) true := ⟨RX12, TX12, 77, tyX12, cls_X12, Nat.le_of_ble_eq_true rfl, mm_tbk mm_t5 167 rfl rfl, rfl, rfl⟩
set_option maxRecDepth 20000 in
theorem fl_X12_38 : mm_fl RX12 38 12 12 (tyX12 12) true := ⟨RX12, TX12, 77, tyX12, cls_X12, Nat.le_of_ble_eq_true rfl, mm_tbk mm_t5 168 rfl rfl, rfl, rfl⟩
set_option maxRecDepth 20000 in
theorem fl_X12_41 : mm_fl RX12 41 12 13 (tyX12 13) true := ⟨RX12, TX12, 77, tyX12, cls_X12, Nat.le_of_ble_eq_true rfl, mm_tbk mm_t5 169 rfl rfl, rfl, rfl⟩
set_option maxRecDepth 20000 in
theorem fl_X12_44 : mm_fl RX12 44 12 14 (tyX12 14) true := ⟨RX12, TX12, 77, tyX12, cls_X12, Nat.le_of_ble_eq_true rfl, mm_tbk mm_t5 170 rfl rfl, rfl, rfl⟩
set_option maxRecDepth 20000 in
theorem fl_X12_47 : mm_fl RX12 47 12 15 (tyX12 15) true := ⟨RX12, TX12, 77, tyX12, cls_X12, Nat.le_of_ble_eq_true rfl, mm_tbk mm_t5 171 rfl rfl, rfl, rfl⟩
set_option maxRecDepth 20000 in
theorem fl_X12_50 : mm_fl RX12 50 12 16 (tyX12 16) true := ⟨RX12, TX12, 77, tyX12, cls_X12, Nat.le_of_ble_eq_true rfl, mm_tbk mm_t5 172 rfl rfl, rfl, rfl⟩
set_option maxRecDepth 20000 in
theorem fl_X12_53 : mm_fl RX12 53 12 18 (tyX12 18) true := ⟨RX12, TX12, 77, tyX12, cls_X12, Nat.le_of_ble_eq_true rfl, mm_tbk mm_t5 174 rfl rfl, rfl, rfl⟩
set_option maxRecDepth 20000 in
theorem fl_X12_56 : mm_fl RX12 56 12 19 (tyX12 19) true := ⟨RX12, TX12, 77, tyX12, cls_X12, Nat.le_of_ble_eq_true rfl, mm_tbk mm_t5 175 rfl rfl, rfl, rfl⟩
set_option maxRecDepth 20000 in
theorem fl_X12_59 : mm_fl RX12 59 12 20 (tyX12 20) true := ⟨RX12, TX12, 77, tyX12, cls_X12, Nat.le_of_ble_eq_true rfl, mm_tbk mm_t5 176 rfl rfl, rfl, rfl⟩
set_option maxRecDepth 20000 in
theorem fl_X12_62 : mm_fl RX12 62 12 21 (tyX12 21) true := ⟨RX12, TX12, 77, tyX12, cls_X12, Nat.le_of_ble_eq_true rfl, mm_tbk mm_t5 177 rfl rfl, rfl, rfl⟩
set_option maxRecDepth 20000 in
theorem fl_X12_65 : mm_fl RX12 65 12 26 (tyX12 26) true := ⟨RX12, TX12, 77, tyX12, cls_X12, Nat.le_of_ble_eq_true rfl, mm_tbk mm_t5 182 rfl rfl, rfl, rfl⟩
set_option maxRecDepth 20000 in
theorem fl_X12_68 : mm_fl RX12 68 12 29 (tyX12 29) true := ⟨RX12, TX12, 77, tyX12, cls_X12, Nat.le_of_ble_eq_true rfl, mm_tbk mm_t5 185 rfl rfl, rfl, rfl⟩
set_option maxRecDepth 20000 in
theorem fl_X12_71 : mm_fl RX12 71 12 30 (tyX12 30) true := ⟨RX12, TX12, 77, tyX12, cls_X12, Nat.le_of_ble_eq_true rfl, mm_tbk mm_t5 186 rfl rfl, rfl, rfl⟩
set_option maxRecDepth 20000 in
theorem fl_X12_74 : mm_fl RX12 74 12 31 (tyX12 31) true := ⟨RX12, TX12, 77, tyX12, cls_X12, Nat.le_of_ble_eq_true rfl, mm_tbk mm_t5 187 rfl rfl, rfl, rfl⟩
set_option maxRecDepth 20000 in
theorem fl_X12_77 : mm_fl RX12 77 12 32 (tyX12 32) true := ⟨RX12, TX12, 77, tyX12, cls_X12, Nat.le_of_ble_eq_true rfl, mm_tbk mm_t5 188 rfl rfl, rfl, rfl⟩
set_option maxRecDepth 20000 in
theorem fl_X12_80 : mm_fl RX12 80 12 33 (tyX12 33) true := ⟨RX12, TX12, 77, tyX12, cls_X12, Nat.le_of_ble_eq_true rfl, mm_tbk mm_t5 189 rfl rfl, rfl, rfl⟩
set_option maxRecDepth 20000 in
theorem fl_X12_83 : mm_fl RX12 83 12 37 (tyX12 37) true := ⟨RX12, TX12, 77, tyX12, cls_X12, Nat.le_of_ble_eq_true rfl, mm_tbk mm_t5 193 rfl rfl, rfl, rfl⟩
set_option maxRecDepth 20000 in
theorem fl_X12_86 : mm_fl RX12 86 12 38 (tyX12 38) true := ⟨RX12, TX12, 77, tyX12, cls_X12, Nat.le_of_ble_eq_true rfl, mm_tbk mm_t5 194 rfl rfl, rfl, rfl⟩
set_option maxRecDepth 20000 in
theorem fl_X12_89 : mm_fl RX12 89 12 40 (tyX12 40) true := ⟨RX12, TX12, 77, tyX12, cls_X12, Nat.le_of_ble_eq_true rfl, mm_tbk mm_t5 196 rfl rfl, rfl, rfl⟩
set_option maxRecDepth 20000 in
theorem fl_X12_92 : mm_fl RX12 92 12 44 (tyX12 44) true := ⟨RX12, TX12, 77, tyX12, cls_X12, Nat.le_of_ble_eq_true rfl, mm_tbk mm_t5 200 rfl rfl, rfl, rfl⟩
set_option maxRecDepth 20000 in
theorem fl_X12_95 : mm_fl RX12 95 12 45 (tyX12 45) true := ⟨RX12, TX12, 77, tyX12, cls_X12, Nat.le_of_ble_eq_true rfl, mm_tbk mm_t5 201 rfl rfl, rfl, rfl⟩
set_option maxRecDepth 20000 in
theorem fl_X12_98 : mm_fl RX12 98 12 46 (tyX12 46) true := ⟨RX12, TX12, 77, tyX12, cls_X12, Nat.le_of_ble_eq_true rfl, mm_tbk mm_t5 202 rfl rfl, rfl, rfl⟩
set_option maxRecDepth 20000 in
theorem fl_X12_101 : mm_fl RX12 101 12 47 (tyX12 47) true := ⟨RX12, TX12, 77, tyX12, cls_X12, Nat.le_of_ble_eq_true rfl, mm_tbk mm_t5 203 rfl rfl, rfl, rfl⟩
set_option maxRecDepth 20000 in
theorem fl_X12_104 : mm_fl RX12 104 12 48 (tyX12 48) true := ⟨RX12, TX12, 77, tyX12, cls_X12, Nat.le_of_ble_eq_true rfl, mm_tbk mm_t5 204 rfl rfl, rfl, rfl⟩
set_option maxRecDepth 20000 in
theorem fl_X12_107 : mm_fl RX12 107 12 49 (tyX12 49) true := ⟨RX12, TX12, 77, tyX12, cls_X12, Nat.le_of_ble_eq_true rfl, mm_tbk mm_t5 205 rfl rfl, rfl, rfl⟩
set_option maxRecDepth 20000 in
theorem fl_X12_110 : mm_fl RX12 110 12 50 (tyX12 50) true := ⟨RX12, TX12, 77, tyX12, cls_X12, Nat.le_of_ble_eq_true rfl, mm_tbk mm_t5 206 rfl rfl, rfl, rfl⟩
set_option maxRecDepth 20000 in
theorem fl_X12_113 : mm_fl RX12 113 12 51 (tyX12 51) true := ⟨RX12, TX12, 77, tyX12, cls_X12, Nat.le_of_ble_eq_true rfl, mm_tbk mm_t5 207 rfl rfl, rfl, rfl⟩
set_option maxRecDepth 20000 in
theorem fl_X12_116 : mm_fl RX12 116 12 52 (tyX12 52) true := ⟨RX12, TX12, 77, tyX12, cls_X12, Nat.le_of_ble_eq_true rfl, mm_tbk mm_t5 208 rfl rfl, rfl, rfl⟩
set_option maxRecDepth 20000 in
theorem fl_X12_119 : mm_fl RX12 119 12 53 (tyX12 53) true := ⟨RX12, TX12, 77, tyX12, cls_X12, Nat.le_of_ble_eq_true rfl, mm_tbk mm_t5 209 rfl rfl, rfl, rfl⟩
set_option maxRecDepth 20000 in
theorem fl_X12_122 : mm_fl RX12 122 12 54 (tyX12 54) true := ⟨RX12, TX12, 77, tyX12, cls_X12, Nat.le_of_ble_eq_true rfl, mm_tbk mm_t5 210 rfl rfl, rfl, rfl⟩
set_option maxRecDepth 20000 in
theorem fl_X12_125 : mm_fl RX12 125 12 55 (tyX12 55) true := ⟨RX12, TX12, 77, tyX12, cls_X12, Nat.le_of_ble_eq_true rfl, mm_tbk mm_t5 211 rfl rfl, rfl, rfl⟩
set_option maxRecDepth 20000 in
theorem fl_X12_128 : mm_fl RX12 128 12 56 (tyX12 56) true := ⟨RX12, TX12, 77, tyX12, cls_X12, Nat.le_of_ble_eq_true rfl, mm_tbk mm_t5 212 rfl rfl, rfl, rfl⟩
set_option maxRecDepth 20000 in
theorem fl_X12_131 : mm_fl RX12 131 12 57 (tyX12 57) true := ⟨RX12, TX12, 77, tyX12, cls_X12, Nat.le_of_ble_eq_true rfl, mm_tbk mm_t5 213 rfl rfl, rfl, rfl⟩
set_option maxRecDepth 20000 in
theorem fl_X12_134 : mm_fl RX12 134 12 58 (tyX12 58) true := ⟨RX12, TX12, 77, tyX12, cls_X12, Nat.le_of_ble_eq_true rfl, mm_tbk mm_t5 214 rfl rfl, rfl, rfl⟩
set_option maxRecDepth 20000 in
theorem fl_X12_137 : mm_fl RX12 137 12 59 (tyX12 59) true := ⟨RX12, TX12, 77, tyX12, cls_X12, Nat.le_of_ble_eq_true rfl, mm_tbk mm_t5 215 rfl rfl, rfl, rfl⟩
set_option maxRecDepth 20000 in
theorem fl_X12_140 : mm_fl RX12 140 12 60 (tyX12 60) false := ⟨RX12, TX12, 77, tyX12, cls_X12, Nat.le_of_ble_eq_true rfl, mm_tbk mm_t5 216 rfl rfl, rfl, rfl⟩
set_option maxRecDepth 20000 in
theorem fl_X12_144 : mm_fl RX12 144 12 61 (tyX12 61) true := ⟨RX12, TX12, 77, tyX12, cls_X12, Nat.le_of_ble_eq_true rfl, mm_tbk mm_t5 217 rfl rfl, rfl, rfl⟩
set_option maxRecDepth 20000 in
theorem fl_X12_147 : mm_fl RX12 147 12 63 (tyX12 63) true := ⟨RX12, TX12, 77, tyX12, cls_X12, Nat.le_of_ble_eq_true rfl, mm_tbk mm_t5 219 rfl rfl, rfl, rfl⟩
set_option maxRecDepth 20000 in
theorem fl_X12_150 : mm_fl RX12 150 12 64 (tyX12 64) true := ⟨RX12, TX12, 77, tyX12, cls_X12, Nat.le_of_ble_eq_true rfl, mm_tbk mm_t5 220 rfl rfl, rfl, rfl⟩
set_option maxRecDepth 20000 in
theorem fl_X12_153 : mm_fl RX12 153 12 68 (tyX12 68) true := ⟨RX12, TX12, 77, tyX12, cls_X12, Nat.le_of_ble_eq_true rfl, mm_tbk mm_t5 224 rfl rfl, rfl, rfl⟩
set_option maxRecDepth 20000 in
theorem fl_X12_156 : mm_fl RX12 156 12 69 (tyX12 69) true := ⟨RX12, TX12, 77, tyX12, cls_X12, Nat.le_of_ble_eq_true rfl, mm_tbk mm_t5 225 rfl rfl, rfl, rfl⟩
set_option maxRecDepth 20000 in
theorem fl_X12_159 : mm_fl RX12 159 12 71 (tyX12 71) true := ⟨RX12, TX12, 77, tyX12, cls_X12, Nat.le_of_ble_eq_true rfl, mm_tbk mm_t5 227 rfl rfl, rfl, rfl⟩
set_option maxRecDepth 20000 in
theorem fl_X12_162 : mm_fl RX12 162 12 72 (tyX12 72) true := ⟨RX12, TX12, 77, tyX12, cls_X12, Nat.le_of_ble_eq_true rfl, mm_tbk mm_t5 228 rfl rfl, rfl, rfl⟩
set_option maxRecDepth 20000 in
theorem fl_X12_165 : mm_fl RX12 165 12 73 (tyX12 73) true := ⟨RX12, TX12, 77, tyX12, cls_X12, Nat.le_of_ble_eq_true rfl, mm_tbk mm_t5 229 rfl rfl, rfl, rfl⟩
set_option maxRecDepth 20000 in
theorem fl_X12_168 : mm_fl RX12 168 12 74 (tyX12 74) true := ⟨RX12, TX12, 77, tyX12, cls_X12, Nat.le_of_ble_eq_true rfl, mm_tbk mm_t5 230 rfl rfl, rfl, rfl⟩
set_option maxRecDepth 20000 in
theorem fl_X12_171 : mm_fl RX12 171 12 75 (tyX12 75) true := ⟨RX12, TX12, 77, tyX12, cls_X12, Nat.le_of_ble_eq_true rfl, mm_tbk mm_t5 231 rfl rfl, rfl, rfl⟩
set_option maxRecDepth 20000 in
theorem fl_X12_174 : mm_fl RX12 174 12 76 (tyX12 76) true := ⟨RX12, TX12, 77, tyX12, cls_X12, Nat.le_of_ble_eq_true rfl, mm_tbk mm_t5 232 rfl rfl, rfl, rfl⟩
set_option maxRecDepth 20000 in
theorem fl_X12_177 : mm_fl RX12 177 12 0 (tyX12 0) false := ⟨RX12, TX12, 77, tyX12, cls_X12, Nat.le_of_ble_eq_true rfl, mm_tbk mm_t5 156 rfl rfl, rfl, rfl⟩
set_option maxRecDepth 20000 in
theorem fl_X12_180 : mm_fl RX12 180 12 2 (tyX12 2) false := ⟨RX12, TX12, 77, tyX12, cls_X12, Nat.le_of_ble_eq_true rfl, mm_tbk mm_t5 158 rfl rfl, rfl, rfl⟩
set_option maxRecDepth 20000 in
theorem fl_X12_191 : mm_fl RX12 191 12 1 (tyX12 1) false := ⟨RX12, TX12, 77, tyX12, cls_X12, Nat.le_of_ble_eq_true rfl, mm_tbk mm_t5 157 rfl rfl, rfl, rfl⟩
set_option maxRecDepth 20000 in
theorem fl_X12_208 : mm_fl RX12 208 12 22 (tyX12 22) false := ⟨RX12, TX12, 77, tyX12, cls_X12, Nat.le_of_ble_eq_true rfl, mm_tbk mm_t5 178 rfl rfl, rfl, rfl⟩
set_option maxRecDepth 20000 in
theorem fl_X12_211 : mm_fl RX12 211 12 23 (tyX12 23) false := ⟨RX12, TX12, 77, tyX12, cls_X12, Nat.le_of_ble_eq_true rfl, mm_tbk mm_t5 179 rfl rfl, rfl, rfl⟩
set_option maxRecDepth 20000 in
theorem fl_X12_222 : mm_fl RX12 222 12 17 (tyX12 17) false := ⟨RX12, TX12, 77, tyX12, cls_X12, Nat.le_of_ble_eq_true rfl, mm_tbk mm_t5 173 rfl rfl, rfl, rfl⟩
set_option maxRecDepth 20000 in
theorem fl_X12_239 : mm_fl RX12 239 12 24 (tyX12 24) false := ⟨RX12, TX12, 77, tyX12, cls_X12, Nat.le_of_ble_eq_true rfl, mm_tbk mm_t5 180 rfl rfl, rfl, rfl⟩
set_option maxRecDepth 20000 in
theorem fl_X12_243 : mm_fl RX12 243 12 25 (tyX12 25) false := ⟨RX12, TX12, 77, tyX12, cls_X12, Nat.le_of_ble_eq_true rfl, mm_tbk mm_t5 181 rfl rfl, rfl, rfl⟩
set_option maxRecDepth 20000 in
theorem fl_X12_249 : mm_fl RX12 249 12 43 (tyX12 43) false := ⟨RX12, TX12, 77, tyX12, cls_X12, Nat.le_of_ble_eq_true rfl, mm_tbk mm_t5 199 rfl rfl, rfl, rfl⟩
set_option maxRecDepth 20000 in
theorem fl_X12_255 : mm_fl RX12 255 12 27 (tyX12 27) false := ⟨RX12, TX12, 77, tyX12, cls_X12, Nat.le_of_ble_eq_true rfl, mm_tbk mm_t5 183 rfl rfl, rfl, rfl⟩
set_option maxRecDepth 20000 in
theorem fl_X12_260 : mm_fl RX12 260 12 34 (tyX12 34) false := ⟨RX12, TX12, 77, tyX12, cls_X12, Nat.le_of_ble_eq_true rfl, mm_tbk mm_t5 190 rfl rfl, rfl, rfl⟩
set_option maxRecDepth 20000 in
theorem fl_X12_263 : mm_fl RX12 263 12 35 (tyX12 35) false := ⟨RX12, TX12, 77, tyX12, cls_X12, Nat.le_of_ble_eq_true rfl, mm_tbk mm_t5 191 rfl rfl, rfl, rfl⟩
set_option maxRecDepth 20000 in
theorem fl_X12_275 : mm_fl RX12 275 12 36 (tyX12 36) false := ⟨RX12, TX12, 77, tyX12, cls_X12, Nat.le_of_ble_eq_true rfl, mm_tbk mm_t5 192 rfl rfl, rfl, rfl⟩
set_option maxRecDepth 20000 in
theorem fl_X12_287 : mm_fl RX12 287 12 39 (tyX12 39) false := ⟨RX12, TX12, 77, tyX12, cls_X12, Nat.le_of_ble_eq_true rfl, mm_tbk mm_t5 195 rfl rfl, rfl, rfl⟩
set_option maxRecDepth 20000 in
theorem fl_X12_293 : mm_fl RX12 293 12 41 (tyX12 41) false := ⟨RX12, TX12, 77, tyX12, cls_X12, Nat.le_of_ble_eq_true rfl, mm_tbk mm_t5 197 rfl rfl, rfl, rfl⟩
set_option maxRecDepth 20000 in
theorem fl_X12_296 : mm_fl RX12 296 12 42 (tyX12 42) false := ⟨RX12, TX12, 77, tyX12, cls_X12, Nat.le_of_ble_eq_true rfl, mm_tbk mm_t5 198 rfl rfl, rfl, rfl⟩
set_option maxRecDepth 20000 in
theorem fl_X12_313 : mm_fl RX12 313 12 28 (tyX12 28) false := ⟨RX12, TX12, 77, tyX12, cls_X12, Nat.le_of_ble_eq_true rfl, mm_tbk mm_t5 184 rfl rfl, rfl, rfl⟩
set_option maxRecDepth 20000 in
theorem fl_X12_348 : mm_fl RX12 348 12 62 (tyX12 62) false := ⟨RX12, TX12, 77, tyX12, cls_X12, Nat.le_of_ble_eq_true rfl, mm_tbk mm_t5 218 rfl rfl, rfl, rfl⟩
set_option maxRecDepth 20000 in
theorem fl_X12_363 : mm_fl RX12 363 12 65 (tyX12 65) false := ⟨RX12, TX12, 77, tyX12, cls_X12, Nat.le_of_ble_eq_true rfl, mm_tbk mm_t5 221 rfl rfl, rfl, rfl⟩
set_option maxRecDepth 20000 in
theorem fl_X12_369 : mm_fl RX12 369 12 66 (tyX12 66) false := ⟨RX12, TX12, 77, tyX12, cls_X12, Nat.le_of_ble_eq_true rfl, mm_tbk mm_t5 222 rfl rfl, rfl, rfl⟩
set_option maxRecDepth 20000 in
theorem fl_X12_372 : mm_fl RX12 372 12 67 (tyX12 67) false := ⟨RX12, TX12, 77, tyX12, cls_X12, Nat.le_of_ble_eq_true rfl, mm_tbk mm_t5 223 rfl rfl, rfl, rfl⟩
set_option maxRecDepth 20000 in
theorem fl_X12_400 : mm_fl RX12 400 12 70 (tyX12 70) false := ⟨RX12, TX12, 77, tyX12, cls_X12, Nat.le_of_ble_eq_true rfl, mm_tbk mm_t5 226 rfl rfl, rfl, rfl⟩
set_option maxRecDepth 20000 in
theorem lk_X11_108 : Cond.methodLink RX11 108 yX11_refuse ∈ mm_T := mm_tbk mm_t2 222 rfl rfl
set_option maxRecDepth 20000 in
theorem lk_X11_112 : Cond.methodLink RX11 112 yX11_isKind ∈ mm_T := mm_tbk mm_t2 230 rfl rfl
set_option maxRecDepth 20000 in
theorem lk_X11_116 : Cond.methodLink RX11 116 yX11_isWard ∈ mm_T := mm_tbk mm_t2 233 rfl rfl
set_option maxRecDepth 20000 in
theorem lk_X11_124 : Cond.methodLink RX11 124 yX6_add ∈ mm_T := mm_tbk mm_t2 236 rfl rfl
set_option maxRecDepth 20000 in
theorem lk_X11_128 : Cond.methodLink RX11 128 yX6_has ∈ mm_T := mm_tbk mm_t3 12 rfl rfl
set_option maxRecDepth 20000 in
theorem lk_X11_131 : Cond.methodLink RX11 131 yX11_outside ∈ mm_T := mm_tbk mm_t3 13 rfl rfl
set_option maxRecDepth 20000 in
theorem lk_X11_141 : Cond.methodLink RX11 141 yX6_ownedSince ∈ mm_T := mm_tbk mm_t3 24 rfl rfl
set_option maxRecDepth 20000 in
theorem lk_X11_147 : Cond.methodLink RX11 147 yX6_addOwner ∈ mm_T := mm_tbk mm_t3 28 rfl rfl
set_option maxRecDepth 20000 in
theorem lk_X11_151 : Cond.methodLink RX11 151 yX0_has ∈ mm_T := mm_tbk mm_t3 33 rfl rfl
set_option maxRecDepth 20000 in
theorem lk_X11_154 : Cond.methodLink RX11 154 yX0_tell ∈ mm_T := mm_tbk mm_t3 37 rfl rfl
set_option maxRecDepth 20000 in
theorem lk_X11_164 : Cond.methodLink RX11 164 yX0_addGuess ∈ mm_T := mm_tbk mm_t3 46 rfl rfl
set_option maxRecDepth 20000 in
theorem lk_X11_167 : Cond.methodLink RX11 167 yX0_age ∈ mm_T := mm_tbk mm_t3 54 rfl rfl
set_option maxRecDepth 20000 in
theorem lk_X11_170 : Cond.methodLink RX11 170 yX0_looks ∈ mm_T := mm_tbk mm_t3 58 rfl rfl
set_option maxRecDepth 20000 in
theorem lk_X11_173 : Cond.methodLink RX11 173 yX0_setKnown ∈ mm_T := mm_tbk mm_t3 67 rfl rfl
set_option maxRecDepth 20000 in
theorem lk_X11_177 : Cond.methodLink RX11 177 yX6_openOnes ∈ mm_T := mm_tbk mm_t3 75 rfl rfl
set_option maxRecDepth 20000 in
theorem lk_X11_181 : Cond.methodLink RX11 181 yX11_takeLettersAway ∈ mm_T := mm_tbk mm_t3 79 rfl rfl
set_option maxRecDepth 20000 in
theorem lk_X11_184 : Cond.methodLink RX11 184 yX2_reckon ∈ mm_T := mm_tbk mm_t3 83 rfl rfl
set_option maxRecDepth 20000 in
theorem lk_X11_188 : Cond.methodLink RX11 188 yX2_take ∈ mm_T := mm_tbk mm_t3 96 rfl rfl
set_option maxRecDepth 20000 in
theorem lk_X11_195 : Cond.methodLink RX11 195 yX2_partsAbove ∈ mm_T := mm_tbk mm_t3 104 rfl rfl
set_option maxRecDepth 20000 in
theorem lk_X11_199 : Cond.methodLink RX11 199 yX2_partsBelow ∈ mm_T := mm_tbk mm_t3 108 rfl rfl
set_option maxRecDepth 20000 in
theorem lk_X11_202 : Cond.methodLink RX11 202 yX3_become ∈ mm_T := mm_tbk mm_t3 112 rfl rfl
set_option maxRecDepth 20000 in
theorem lk_X11_230 : Cond.methodLink RX11 230 yX8_append ∈ mm_T := mm_tbk mm_t3 123 rfl rfl
set_option maxRecDepth 20000 in
theorem lk_X11_234 : Cond.methodLink RX11 234 yX11_isUse ∈ mm_T := mm_tbk mm_t3 132 rfl rfl
set_option maxRecDepth 20000 in
theorem lk_X11_240 : Cond.methodLink RX11 240 yX8_translate ∈ mm_T := mm_tbk mm_t3 135 rfl rfl
set_option maxRecDepth 20000 in
theorem lk_X11_249 : Cond.methodLink RX11 249 yX5_add ∈ mm_T := mm_tbk mm_t3 181 rfl rfl
set_option maxRecDepth 20000 in
theorem lk_X11_252 : Cond.methodLink RX11 252 yX5_inForce ∈ mm_T := mm_tbk mm_t3 189 rfl rfl
set_option maxRecDepth 20000 in
theorem lk_X11_255 : Cond.methodLink RX11 255 yX11_mayBeTestedOn ∈ mm_T := mm_tbk mm_t3 197 rfl rfl
set_option maxRecDepth 20000 in
theorem lk_X11_261 : Cond.methodLink RX11 261 yX9_add ∈ mm_T := mm_tbk mm_t3 209 rfl rfl
set_option maxRecDepth 20000 in
theorem lk_X11_264 : Cond.methodLink RX11 264 yX9_has ∈ mm_T := mm_tbk mm_t3 217 rfl rfl
set_option maxRecDepth 20000 in
theorem lk_X11_265 : Cond.methodLink RX11 265 yX9_isVoided ∈ mm_T := mm_tbk mm_t3 221 rfl rfl
set_option maxRecDepth 20000 in
theorem lk_X11_271 : Cond.methodLink RX11 271 yX9_countsAsOf ∈ mm_T := mm_tbk mm_t3 230 rfl rfl
set_option maxRecDepth 20000 in
theorem lk_X11_274 : Cond.methodLink RX11 274 yX10_weigh ∈ mm_T := mm_tbk mm_t3 234 rfl rfl
set_option maxRecDepth 20000 in
theorem lk_X11_284 : Cond.methodLink RX11 284 yX11_isFact ∈ mm_T := mm_tbk mm_t4 53 rfl rfl
set_option maxRecDepth 20000 in
theorem lk_X11_287 : Cond.methodLink RX11 287 yX10_gather ∈ mm_T := mm_tbk mm_t4 54 rfl rfl
set_option maxRecDepth 20000 in
theorem lk_X11_294 : Cond.methodLink RX11 294 yX6_ownerOn ∈ mm_T := mm_tbk mm_t3 201 rfl rfl
set_option maxRecDepth 20000 in
theorem lk_X11_297 : Cond.methodLink RX11 297 yX9_until ∈ mm_T := mm_tbk mm_t4 59 rfl rfl
set_option maxRecDepth 20000 in
theorem lk_X11_300 : Cond.methodLink RX11 300 yX10_stepOf ∈ mm_T := mm_tbk mm_t4 63 rfl rfl
set_option maxRecDepth 20000 in
theorem lk_X11_303 : Cond.methodLink RX11 303 yX11_workRefusal ∈ mm_T := mm_tbk mm_t4 79 rfl rfl
set_option maxRecDepth 20000 in
theorem lk_X11_306 : Cond.methodLink RX11 306 yX11_planWork ∈ mm_T := mm_tbk mm_t4 83 rfl rfl
set_option maxRecDepth 20000 in
theorem lk_X11_319 : Cond.methodLink RX11 319 yX4_stopAt ∈ mm_T := mm_tbk mm_t4 157 rfl rfl
set_option maxRecDepth 20000 in
theorem lk_X11_324 : Cond.methodLink RX11 324 yX11_giveLetters ∈ mm_T := mm_tbk mm_t4 170 rfl rfl
set_option maxRecDepth 20000 in
theorem lk_X11_327 : Cond.methodLink RX11 327 yX11_tableRefusal ∈ mm_T := mm_tbk mm_t4 183 rfl rfl
set_option maxRecDepth 20000 in
theorem lk_X11_330 : Cond.methodLink RX11 330 yX7_clear ∈ mm_T := mm_tbk mm_t4 186 rfl rfl
set_option maxRecDepth 20000 in
theorem lk_X11_333 : Cond.methodLink RX11 333 yX11_enter ∈ mm_T := mm_tbk mm_t4 190 rfl rfl
set_option maxRecDepth 20000 in
theorem lk_X11_337 : Cond.methodLink RX11 337 yX7_tell ∈ mm_T := mm_tbk mm_t4 203 rfl rfl
set_option maxRecDepth 20000 in
theorem lk_X11_343 : Cond.methodLink RX11 343 yX1_add ∈ mm_T := mm_tbk mm_t4 224 rfl rfl
set_option maxRecDepth 20000 in
theorem lk_X11_344 : Cond.methodLink RX11 344 yX11_tallyClerks ∈ mm_T := mm_tbk mm_t4 232 rfl rfl
set_option maxRecDepth 20000 in
theorem lk_X11_353 : Cond.methodLink RX11 353 yX1_worstOne ∈ mm_T := mm_tbk mm_t5 13 rfl rfl
set_option maxRecDepth 20000 in
theorem lk_X11_356 : Cond.methodLink RX11 356 yX2_costsAtMost ∈ mm_T := mm_tbk mm_t5 25 rfl rfl
set_option maxRecDepth 20000 in
theorem lk_X11_360 : Cond.methodLink RX11 360 yX0_toldOnes ∈ mm_T := mm_tbk mm_t5 33 rfl rfl
set_option maxRecDepth 20000 in
theorem lk_X11_363 : Cond.methodLink RX11 363 yX9_voidedOnes ∈ mm_T := mm_tbk mm_t5 37 rfl rfl
set_option maxRecDepth 20000 in
theorem lk_X11_366 : Cond.methodLink RX11 366 yX11_goodNow ∈ mm_T := mm_tbk mm_t5 41 rfl rfl
set_option maxRecDepth 20000 in
theorem lk_X11_370 : Cond.methodLink RX11 370 yX9_latestDay ∈ mm_T := mm_tbk mm_t3 205 rfl rfl
set_option maxRecDepth 20000 in
theorem lk_X11_374 : Cond.methodLink RX11 374 yX10_latestGoodSold ∈ mm_T := mm_tbk mm_t5 141 rfl rfl
set_option maxRecDepth 20000 in
theorem lk_X11_377 : Cond.methodLink RX11 377 yX3_add ∈ mm_T := mm_tbk mm_t5 145 rfl rfl
set_option maxRecDepth 20000 in
theorem lk_X11_379 : Cond.methodLink RX11 379 yX4_clear ∈ mm_T := mm_tbk mm_t4 87 rfl rfl
set_option maxRecDepth 20000 in
theorem lk_X11_386 : Cond.methodLink RX11 386 yX11_mayGo ∈ mm_T := mm_tbk mm_t4 91 rfl rfl
set_option maxRecDepth 20000 in
theorem lk_X11_389 : Cond.methodLink RX11 389 yX4_addStop ∈ mm_T := mm_tbk mm_t4 101 rfl rfl
set_option maxRecDepth 20000 in
theorem lk_X11_393 : Cond.methodLink RX11 393 yX4_plan ∈ mm_T := mm_tbk mm_t4 105 rfl rfl
set_option maxRecDepth 20000 in
theorem lk_X11_396 : Cond.methodLink RX11 396 yX0_isKnown ∈ mm_T := mm_tbk mm_t4 95 rfl rfl
set_option maxRecDepth 20000 in
theorem lk_X11_399 : Cond.methodLink RX11 399 yX9_anyOf ∈ mm_T := mm_tbk mm_t4 96 rfl rfl
set_option maxRecDepth 20000 in
theorem lk_X11_402 : Cond.methodLink RX11 402 yX10_firstGood ∈ mm_T := mm_tbk mm_t4 194 rfl rfl
set_option maxRecDepth 20000 in
theorem lk_X11_405 : Cond.methodLink RX11 405 yX9_isSold ∈ mm_T := mm_tbk mm_t4 198 rfl rfl
set_option maxRecDepth 20000 in
theorem lk_X11_408 : Cond.methodLink RX11 408 yX7_put ∈ mm_T := mm_tbk mm_t4 199 rfl rfl
set_option maxRecDepth 20000 in
theorem lk_X11_412 : Cond.methodLink RX11 412 yX1_clearTally ∈ mm_T := mm_tbk mm_t4 236 rfl rfl
set_option maxRecDepth 20000 in
theorem lk_X11_424 : Cond.methodLink RX11 424 yX1_standing ∈ mm_T := mm_tbk mm_t5 1 rfl rfl
set_option maxRecDepth 20000 in
theorem lk_X11_427 : Cond.methodLink RX11 427 yX1_addToTally ∈ mm_T := mm_tbk mm_t5 5 rfl rfl
set_option maxRecDepth 20000 in
theorem lk_X0_28 : Cond.methodLink RX0 28 yX0_has ∈ mm_T := mm_tbk mm_t3 41 rfl rfl
set_option maxRecDepth 20000 in
theorem lk_X0_32 : Cond.methodLink RX0 32 yX0_age ∈ mm_T := mm_tbk mm_t3 62 rfl rfl
set_option maxRecDepth 20000 in
theorem lk_X1_37 : Cond.methodLink RX1 37 yJ7_fill_53178 ∈ mm_T := mm_tbk mm_t5 0 rfl rfl
set_option maxRecDepth 20000 in
theorem lk_X2_35 : Cond.methodLink RX2 35 yX6_has ∈ mm_T := mm_tbk mm_t3 87 rfl rfl
set_option maxRecDepth 20000 in
theorem lk_X2_45 : Cond.methodLink RX2 45 yX2_makeSure ∈ mm_T := mm_tbk mm_t3 88 rfl rfl
set_option maxRecDepth 20000 in
theorem lk_X2_49 : Cond.methodLink RX2 49 yX2_isOther ∈ mm_T := mm_tbk mm_t3 92 rfl rfl
set_option maxRecDepth 20000 in
theorem lk_X3_16 : Cond.methodLink RX3 16 yX3_commonDivisor ∈ mm_T := mm_tbk mm_t3 116 rfl rfl
set_option maxRecDepth 20000 in
theorem lk_X3_20 : Cond.methodLink RX3 20 yX3_become ∈ mm_T := mm_tbk mm_t5 149 rfl rfl
set_option maxRecDepth 20000 in
theorem lk_X4_51 : Cond.methodLink RX4 51 yX4_reckonTimes ∈ mm_T := mm_tbk mm_t4 109 rfl rfl
set_option maxRecDepth 20000 in
theorem lk_X4_54 : Cond.methodLink RX4 54 yX4_all ∈ mm_T := mm_tbk mm_t4 113 rfl rfl
set_option maxRecDepth 20000 in
theorem lk_X4_58 : Cond.methodLink RX4 58 yX4_isAllowed ∈ mm_T := mm_tbk mm_t4 142 rfl rfl
set_option maxRecDepth 20000 in
theorem lk_X4_62 : Cond.methodLink RX4 62 yJ9_max_7cf53 ∈ mm_T := mm_tbk mm_t4 146 rfl rfl
set_option maxRecDepth 20000 in
theorem lk_X4_68 : Cond.methodLink RX4 68 yJ9_min_7cf53 ∈ mm_T := mm_tbk mm_t4 133 rfl rfl
set_option maxRecDepth 20000 in
theorem lk_X4_71 : Cond.methodLink RX4 71 yX4_offer ∈ mm_T := mm_tbk mm_t4 149 rfl rfl
set_option maxRecDepth 20000 in
theorem lk_X4_75 : Cond.methodLink RX4 75 yX4_bit ∈ mm_T := mm_tbk mm_t4 118 rfl rfl
set_option maxRecDepth 20000 in
theorem lk_X4_80 : Cond.methodLink RX4 80 yX4_shortestTo ∈ mm_T := mm_tbk mm_t4 122 rfl rfl
set_option maxRecDepth 20000 in
theorem lk_X4_83 : Cond.methodLink RX4 83 yX4_leg ∈ mm_T := mm_tbk mm_t4 126 rfl rfl
set_option maxRecDepth 20000 in
theorem lk_X4_86 : Cond.methodLink RX4 86 yJ6_bitCount_0f7a4 ∈ mm_T := mm_tbk mm_t4 136 rfl rfl
set_option maxRecDepth 20000 in
theorem lk_X4_91 : Cond.methodLink RX4 91 yJ9_abs_0f7a4 ∈ mm_T := mm_tbk mm_t4 130 rfl rfl
set_option maxRecDepth 20000 in
theorem lk_X4_94 : Cond.methodLink RX4 94 yX4_nextStop ∈ mm_T := mm_tbk mm_t4 161 rfl rfl
set_option maxRecDepth 20000 in
theorem lk_X5_31 : Cond.methodLink RX5 31 yX5_inForce ∈ mm_T := mm_tbk mm_t4 34 rfl rfl
set_option maxRecDepth 20000 in
theorem lk_X5_35 : Cond.methodLink RX5 35 yX5_value ∈ mm_T := mm_tbk mm_t4 35 rfl rfl
set_option maxRecDepth 20000 in
theorem lk_X5_39 : Cond.methodLink RX5 39 yX5_unit ∈ mm_T := mm_tbk mm_t4 39 rfl rfl
set_option maxRecDepth 20000 in
theorem lk_X5_44 : Cond.methodLink RX5 44 yX5_join ∈ mm_T := mm_tbk mm_t4 42 rfl rfl
set_option maxRecDepth 20000 in
theorem lk_X6_41 : Cond.methodLink RX6 41 yX6_addOwner ∈ mm_T := mm_tbk mm_t3 0 rfl rfl
set_option maxRecDepth 20000 in
theorem lk_X6_45 : Cond.methodLink RX6 45 yX6_has ∈ mm_T := mm_tbk mm_t3 4 rfl rfl
set_option maxRecDepth 20000 in
theorem lk_X7_29 : Cond.methodLink RX7 29 yX7_reckonChance ∈ mm_T := mm_tbk mm_t4 207 rfl rfl
set_option maxRecDepth 20000 in
theorem lk_X7_41 : Cond.methodLink RX7 41 yX7_waysToChoose ∈ mm_T := mm_tbk mm_t4 211 rfl rfl
set_option maxRecDepth 20000 in
theorem lk_X7_45 : Cond.methodLink RX7 45 yX3_become ∈ mm_T := mm_tbk mm_t4 214 rfl rfl
set_option maxRecDepth 20000 in
theorem lk_X8_33 : Cond.methodLink RX8 33 yX8_readChoice ∈ mm_T := mm_tbk mm_t3 139 rfl rfl
set_option maxRecDepth 20000 in
theorem lk_X8_37 : Cond.methodLink RX8 37 yX8_fail ∈ mm_T := mm_tbk mm_t3 159 rfl rfl
set_option maxRecDepth 20000 in
theorem lk_X8_40 : Cond.methodLink RX8 40 yX8_readTerm ∈ mm_T := mm_tbk mm_t3 143 rfl rfl
set_option maxRecDepth 20000 in
theorem lk_X8_43 : Cond.methodLink RX8 43 yX8_peek ∈ mm_T := mm_tbk mm_t3 151 rfl rfl
set_option maxRecDepth 20000 in
theorem lk_X8_47 : Cond.methodLink RX8 47 yX8_put ∈ mm_T := mm_tbk mm_t3 163 rfl rfl
set_option maxRecDepth 20000 in
theorem lk_X8_50 : Cond.methodLink RX8 50 yX8_readPart ∈ mm_T := mm_tbk mm_t3 147 rfl rfl
set_option maxRecDepth 20000 in
theorem lk_X8_53 : Cond.methodLink RX8 53 yX8_readDeeper ∈ mm_T := mm_tbk mm_t3 155 rfl rfl
set_option maxRecDepth 20000 in
theorem lk_X8_57 : Cond.methodLink RX8 57 yX8_readSum ∈ mm_T := mm_tbk mm_t3 167 rfl rfl
set_option maxRecDepth 20000 in
theorem lk_X8_60 : Cond.methodLink RX8 60 yX8_readUnit ∈ mm_T := mm_tbk mm_t3 171 rfl rfl
theorem lk_X8_63 : Cond.methodLinkNest RX8 63 yX11_isFact "YoungBuyers" = Cond.methodLinkNest RX8 63 yX11_isFact "YoungBuyers" := rfl
set_option maxRecDepth 20000 in
theorem lk_X8_67 : Cond.methodLink RX8 67 yX8_isDigit ∈ mm_T := mm_tbk mm_t3 178 rfl rfl
set_option maxRecDepth 20000 in
theorem lk_X9_37 : Cond.methodLink RX9 37 yX9_has ∈ mm_T := mm_tbk mm_t3 225 rfl rfl
set_option maxRecDepth 20000 in
theorem lk_X9_41 : Cond.methodLink RX9 41 yX9_isVoided ∈ mm_T := mm_tbk mm_t4 100 rfl rfl
set_option maxRecDepth 20000 in
theorem lk_X10_68 : Cond.methodLink RX10 68 yX10_forget ∈ mm_T := mm_tbk mm_t3 238 rfl rfl
set_option maxRecDepth 20000 in
theorem lk_X10_75 : Cond.methodLink RX10 75 yX9_countsAsOf ∈ mm_T := mm_tbk mm_t4 3 rfl rfl
set_option maxRecDepth 20000 in
theorem lk_X10_79 : Cond.methodLink RX10 79 yX10_gather ∈ mm_T := mm_tbk mm_t4 4 rfl rfl
set_option maxRecDepth 20000 in
theorem lk_X10_83 : Cond.methodLink RX10 83 yX10_settle ∈ mm_T := mm_tbk mm_t4 26 rfl rfl
set_option maxRecDepth 20000 in
theorem lk_X10_86 : Cond.methodLink RX10 86 yJ7_fill_53178 ∈ mm_T := mm_tbk mm_t4 2 rfl rfl
set_option maxRecDepth 20000 in
theorem lk_X10_92 : Cond.methodLink RX10 92 yX10_ownerOf ∈ mm_T := mm_tbk mm_t4 8 rfl rfl
set_option maxRecDepth 20000 in
theorem lk_X10_96 : Cond.methodLink RX10 96 yX10_visitOf ∈ mm_T := mm_tbk mm_t4 14 rfl rfl
set_option maxRecDepth 20000 in
theorem lk_X10_108 : Cond.methodLink RX10 108 yX0_age ∈ mm_T := mm_tbk mm_t4 20 rfl rfl
set_option maxRecDepth 20000 in
theorem lk_X10_112 : Cond.methodLink RX10 112 yX0_looks ∈ mm_T := mm_tbk mm_t4 21 rfl rfl
set_option maxRecDepth 20000 in
theorem lk_X10_121 : Cond.methodLink RX10 121 yX0_isKnown ∈ mm_T := mm_tbk mm_t4 22 rfl rfl
set_option maxRecDepth 20000 in
theorem lk_X10_124 : Cond.methodLink RX10 124 yX5_holds ∈ mm_T := mm_tbk mm_t4 30 rfl rfl
set_option maxRecDepth 20000 in
theorem lk_X10_128 : Cond.methodLink RX10 128 yX9_isSold ∈ mm_T := mm_tbk mm_t4 45 rfl rfl
set_option maxRecDepth 20000 in
theorem lk_X10_132 : Cond.methodLink RX10 132 yX9_has ∈ mm_T := mm_tbk mm_t4 12 rfl rfl
set_option maxRecDepth 20000 in
theorem lk_X10_135 : Cond.methodLink RX10 135 yX6_ownerOn ∈ mm_T := mm_tbk mm_t4 13 rfl rfl
set_option maxRecDepth 20000 in
theorem lk_X10_138 : Cond.methodLink RX10 138 yX0_has ∈ mm_T := mm_tbk mm_t4 18 rfl rfl
set_option maxRecDepth 20000 in
theorem lk_X10_139 : Cond.methodLink RX10 139 yX6_has ∈ mm_T := mm_tbk mm_t4 19 rfl rfl
set_option maxRecDepth 20000 in
theorem lk_X12_183 : Cond.methodLink RX12 183 yX12_in ∈ mm_T := mm_tbk mm_t6 164 rfl rfl
set_option maxRecDepth 20000 in
theorem lk_X12_187 : Cond.methodLink RX12 187 yX12_refuse ∈ mm_T := mm_tbk mm_t6 156 rfl rfl
set_option maxRecDepth 20000 in
theorem lk_X12_194 : Cond.methodLink RX12 194 yX12_isShop ∈ mm_T := mm_tbk mm_t6 171 rfl rfl
set_option maxRecDepth 20000 in
theorem lk_X12_198 : Cond.methodLink RX12 198 yX12_lacks ∈ mm_T := mm_tbk mm_t6 191 rfl rfl
set_option maxRecDepth 20000 in
theorem lk_X12_201 : Cond.methodLink RX12 201 yX12_ageOn ∈ mm_T := mm_tbk mm_t6 199 rfl rfl
set_option maxRecDepth 20000 in
theorem lk_X12_205 : Cond.methodLink RX12 205 yX12_looksOn ∈ mm_T := mm_tbk mm_t6 203 rfl rfl
set_option maxRecDepth 20000 in
theorem lk_X12_214 : Cond.methodLink RX12 214 yX12_openMany ∈ mm_T := mm_tbk mm_t6 215 rfl rfl
set_option maxRecDepth 20000 in
theorem lk_X12_218 : Cond.methodLink RX12 218 yX12_findSure ∈ mm_T := mm_tbk mm_t6 219 rfl rfl
set_option maxRecDepth 20000 in
theorem lk_X12_226 : Cond.methodLink RX12 226 yX12_noLetters ∈ mm_T := mm_tbk mm_t6 223 rfl rfl
set_option maxRecDepth 20000 in
theorem lk_X12_229 : Cond.methodLink RX12 229 yX12_divisor ∈ mm_T := mm_tbk mm_t6 227 rfl rfl
set_option maxRecDepth 20000 in
theorem lk_X12_235 : Cond.methodLink RX12 235 yX12_below ∈ mm_T := mm_tbk mm_t6 231 rfl rfl
set_option maxRecDepth 20000 in
theorem lk_X12_246 : Cond.methodLink RX12 246 yX12_weigh ∈ mm_T := mm_tbk mm_t7 2 rfl rfl
set_option maxRecDepth 20000 in
theorem lk_X12_252 : Cond.methodLink RX12 252 yX12_addBack ∈ mm_T := mm_tbk mm_t7 75 rfl rfl
set_option maxRecDepth 20000 in
theorem lk_X12_266 : Cond.methodLink RX12 266 yX12_byteAt ∈ mm_T := mm_tbk mm_t7 34 rfl rfl
set_option maxRecDepth 20000 in
theorem lk_X12_269 : Cond.methodLink RX12 269 yX12_factOf ∈ mm_T := mm_tbk mm_t7 54 rfl rfl
set_option maxRecDepth 20000 in
theorem lk_X12_272 : Cond.methodLink RX12 272 yX12_isDigit ∈ mm_T := mm_tbk mm_t7 57 rfl rfl
set_option maxRecDepth 20000 in
theorem lk_X12_278 : Cond.methodLink RX12 278 yX12_readUnit ∈ mm_T := mm_tbk mm_t7 50 rfl rfl
set_option maxRecDepth 20000 in
theorem lk_X12_281 : Cond.methodLink RX12 281 yX12_readSum ∈ mm_T := mm_tbk mm_t7 46 rfl rfl
set_option maxRecDepth 20000 in
theorem lk_X12_284 : Cond.methodLink RX12 284 yX12_isSign ∈ mm_T := mm_tbk mm_t7 60 rfl rfl
set_option maxRecDepth 20000 in
theorem lk_X12_290 : Cond.methodLink RX12 290 yX12_topSign ∈ mm_T := mm_tbk mm_t7 67 rfl rfl
set_option maxRecDepth 20000 in
theorem lk_X12_299 : Cond.methodLink RX12 299 yX12_wait ∈ mm_T := mm_tbk mm_t7 38 rfl rfl
set_option maxRecDepth 20000 in
theorem lk_X12_302 : Cond.methodLink RX12 302 yX12_readPart ∈ mm_T := mm_tbk mm_t7 42 rfl rfl
set_option maxRecDepth 20000 in
theorem lk_X12_306 : Cond.methodLink RX12 306 yX12_settleNots ∈ mm_T := mm_tbk mm_t7 63 rfl rfl
set_option maxRecDepth 20000 in
theorem lk_X12_309 : Cond.methodLink RX12 309 yX12_settle ∈ mm_T := mm_tbk mm_t7 71 rfl rfl
set_option maxRecDepth 20000 in
theorem lk_X12_316 : Cond.methodLink RX12 316 yX12_readText ∈ mm_T := mm_tbk mm_t7 30 rfl rfl
set_option maxRecDepth 20000 in
theorem lk_X12_319 : Cond.methodLink RX12 319 yX12_ruleOn ∈ mm_T := mm_tbk mm_t7 22 rfl rfl
set_option maxRecDepth 20000 in
theorem lk_X12_322 : Cond.methodLink RX12 322 yX12_ownerOn ∈ mm_T := mm_tbk mm_t7 14 rfl rfl
set_option maxRecDepth 20000 in
theorem lk_X12_325 : Cond.methodLink RX12 325 yX12_isTest ∈ mm_T := mm_tbk mm_t7 100 rfl rfl
set_option maxRecDepth 20000 in
theorem lk_X12_328 : Cond.methodLink RX12 328 yX12_countsBy ∈ mm_T := mm_tbk mm_t7 6 rfl rfl
set_option maxRecDepth 20000 in
theorem lk_X12_332 : Cond.methodLink RX12 332 yX12_weighOne ∈ mm_T := mm_tbk mm_t7 10 rfl rfl
set_option maxRecDepth 20000 in
theorem lk_X12_335 : Cond.methodLink RX12 335 yX12_findFacts ∈ mm_T := mm_tbk mm_t7 18 rfl rfl
set_option maxRecDepth 20000 in
theorem lk_X12_339 : Cond.methodLink RX12 339 yX12_holds ∈ mm_T := mm_tbk mm_t7 26 rfl rfl
set_option maxRecDepth 20000 in
theorem lk_X12_342 : Cond.methodLink RX12 342 yX12_wrongDay ∈ mm_T := mm_tbk mm_t7 108 rfl rfl
set_option maxRecDepth 20000 in
theorem lk_X12_345 : Cond.methodLink RX12 345 yX12_stepOn ∈ mm_T := mm_tbk mm_t7 119 rfl rfl
set_option maxRecDepth 20000 in
theorem lk_X12_351 : Cond.methodLink RX12 351 yX12_farFrom ∈ mm_T := mm_tbk mm_t7 151 rfl rfl
set_option maxRecDepth 20000 in
theorem lk_X12_354 : Cond.methodLink RX12 354 yX12_ones ∈ mm_T := mm_tbk mm_t7 159 rfl rfl
set_option maxRecDepth 20000 in
theorem lk_X12_357 : Cond.methodLink RX12 357 yX12_allowed ∈ mm_T := mm_tbk mm_t7 143 rfl rfl
set_option maxRecDepth 20000 in
theorem lk_X12_360 : Cond.methodLink RX12 360 yX12_findWays ∈ mm_T := mm_tbk mm_t7 147 rfl rfl
set_option maxRecDepth 20000 in
theorem lk_X12_366 : Cond.methodLink RX12 366 yX12_timeOf ∈ mm_T := mm_tbk mm_t7 155 rfl rfl
set_option maxRecDepth 20000 in
theorem lk_X12_375 : Cond.methodLink RX12 375 yX12_wrongWork ∈ mm_T := mm_tbk mm_t7 135 rfl rfl
set_option maxRecDepth 20000 in
theorem lk_X12_378 : Cond.methodLink RX12 378 yX12_findWork ∈ mm_T := mm_tbk mm_t7 139 rfl rfl
set_option maxRecDepth 20000 in
theorem lk_X12_383 : Cond.methodLink RX12 383 yX12_ways ∈ mm_T := mm_tbk mm_t7 192 rfl rfl
set_option maxRecDepth 20000 in
theorem lk_X12_389 : Cond.methodLink RX12 389 yX12_noTable ∈ mm_T := mm_tbk mm_t7 180 rfl rfl
set_option maxRecDepth 20000 in
theorem lk_X12_392 : Cond.methodLink RX12 392 yX12_countIn ∈ mm_T := mm_tbk mm_t7 184 rfl rfl
set_option maxRecDepth 20000 in
theorem lk_X12_396 : Cond.methodLink RX12 396 yX12_chance ∈ mm_T := mm_tbk mm_t7 188 rfl rfl
set_option maxRecDepth 20000 in
theorem lk_X12_403 : Cond.methodLink RX12 403 yX12_clerkOf ∈ mm_T := mm_tbk mm_t7 212 rfl rfl
set_option maxRecDepth 20000 in
theorem lk_X12_406 : Cond.methodLink RX12 406 yX12_tallied ∈ mm_T := mm_tbk mm_t7 208 rfl rfl
set_option maxRecDepth 20000 in
theorem lk_X12_410 : Cond.methodLink RX12 410 yX12_isPaid ∈ mm_T := mm_tbk mm_t7 228 rfl rfl
set_option maxRecDepth 20000 in
theorem kn_X11_323 : Cond.constant RX11 323 (99999) ∈ mm_T := mm_tbk mm_t4 169 rfl rfl
set_option maxRecDepth 20000 in
theorem kn_X11_373 : Cond.constant RX11 373 (53125) ∈ mm_T := mm_tbk mm_t4 174 rfl rfl
set_option maxRecDepth 20000 in
theorem kn_X4_79 : Cond.constant RX4 79 (1000000) ∈ mm_T := mm_tbk mm_t4 117 rfl rfl
set_option maxRecDepth 20000 in
theorem kn_X7_39 : Cond.constantLong RX7 39 (20) ∈ mm_T := mm_tbk mm_t4 215 rfl rfl
set_option maxRecDepth 20000 in
theorem kn_X8_31 : Cond.constantLong RX8 31 (255) ∈ mm_T := mm_tbk mm_t3 127 rfl rfl
set_option maxRecDepth 20000 in
theorem kn_X12_233 : Cond.constantLong RX12 233 (1000) ∈ mm_T := mm_tbk mm_t6 230 rfl rfl
set_option maxRecDepth 20000 in
theorem kn_X12_258 : Cond.constantLong RX12 258 (255) ∈ mm_T := mm_tbk mm_t7 83 rfl rfl
set_option maxRecDepth 20000 in
theorem kn_X12_381 : Cond.constant RX12 381 (99999) ∈ mm_T := mm_tbk mm_t7 170 rfl rfl
set_option maxRecDepth 20000 in
theorem kn_X12_382 : Cond.constant RX12 382 (53125) ∈ mm_T := mm_tbk mm_t7 171 rfl rfl
set_option maxRecDepth 20000 in
theorem kn_X12_387 : Cond.constantLong RX12 387 (20) ∈ mm_T := mm_tbk mm_t7 195 rfl rfl
set_option maxRecDepth 20000 in
theorem kn_J6_265 : Cond.constant RJ6 265 (1431655765) ∈ mm_T := mm_tbk mm_t4 139 rfl rfl
set_option maxRecDepth 20000 in
theorem kn_J6_266 : Cond.constant RJ6 266 (858993459) ∈ mm_T := mm_tbk mm_t4 140 rfl rfl
set_option maxRecDepth 20000 in
theorem kn_J6_267 : Cond.constant RJ6 267 (252645135) ∈ mm_T := mm_tbk mm_t4 141 rfl rfl
def Y_X12_thrown : mm_Y := (yX12_thrown, cX12_thrown, 1, (some .int))
def Y_X12_refuse : mm_Y := (yX12_refuse, cX12_refuse, 2, (some .int))
def Y_X12_isShop : mm_Y := (yX12_isShop, cX12_isShop, 2, (some .boolean))
def Y_X12_in : mm_Y := (yX12_in, cX12_in, 3, (some .boolean))
def Y_X12_days : mm_Y := (yX12_days, cX12_days, 2, (some .int))
def Y_X12_shop : mm_Y := (yX12_shop, cX12_shop, 5, (some .int))
def Y_X12_weight : mm_Y := (yX12_weight, cX12_weight, 4, (some .int))
def Y_X12_open : mm_Y := (yX12_open, cX12_open, 4, (some .int))
def Y_X12_sell : mm_Y := (yX12_sell, cX12_sell, 2, (some .int))
def Y_X12_ownerOn : mm_Y := (yX12_ownerOn, cX12_ownerOn, 5, (some .int))
def Y_X12_child : mm_Y := (yX12_child, cX12_child, 5, (some .int))
def Y_X12_lacks : mm_Y := (yX12_lacks, cX12_lacks, 2, (some .int))
def Y_X12_guess : mm_Y := (yX12_guess, cX12_guess, 5, (some .int))
def Y_X12_ageOn : mm_Y := (yX12_ageOn, cX12_ageOn, 3, (some .int))
def Y_X12_looksOn : mm_Y := (yX12_looksOn, cX12_looksOn, 3, (some .int))
def Y_X12_childOf : mm_Y := (yX12_childOf, cX12_childOf, 4, (some .int))
def Y_X12_known : mm_Y := (yX12_known, cX12_known, 5, (some .int))
def Y_X12_openMany : mm_Y := (yX12_openMany, cX12_openMany, 3, (some .int))
def Y_X12_findSure : mm_Y := (yX12_findSure, cX12_findSure, 7, none)
def Y_X12_draw : mm_Y := (yX12_draw, cX12_draw, 10, (some .int))
def Y_X12_divisor : mm_Y := (yX12_divisor, cX12_divisor, 10, (some .long))
def Y_X12_below : mm_Y := (yX12_below, cX12_below, 6, (some .long))
def Y_X12_noLetters : mm_Y := (yX12_noLetters, cX12_noLetters, 2, none)
def Y_X12_drawn : mm_Y := (yX12_drawn, cX12_drawn, 3, (some .int))
def Y_X12_addBack : mm_Y := (yX12_addBack, cX12_addBack, 8, none)
def Y_X12_back : mm_Y := (yX12_back, cX12_back, 5, (some .long))
def Y_X12_weigh : mm_Y := (yX12_weigh, cX12_weigh, 3, none)
def Y_X12_countsBy : mm_Y := (yX12_countsBy, cX12_countsBy, 3, (some .boolean))
def Y_X12_weighOne : mm_Y := (yX12_weighOne, cX12_weighOne, 7, none)
def Y_X12_holds : mm_Y := (yX12_holds, cX12_holds, 3, (some .boolean))
def Y_X12_readText : mm_Y := (yX12_readText, cX12_readText, 3, (some .boolean))
def Y_X12_settle : mm_Y := (yX12_settle, cX12_settle, 4, none)
def Y_X12_topSign : mm_Y := (yX12_topSign, cX12_topSign, 1, (some .int))
def Y_X12_settleNots : mm_Y := (yX12_settleNots, cX12_settleNots, 1, none)
def Y_X12_wait : mm_Y := (yX12_wait, cX12_wait, 2, none)
def Y_X12_readPart : mm_Y := (yX12_readPart, cX12_readPart, 4, (some .boolean))
def Y_X12_readSum : mm_Y := (yX12_readSum, cX12_readSum, 4, (some .int))
def Y_X12_readUnit : mm_Y := (yX12_readUnit, cX12_readUnit, 4, (some .int))
def Y_X12_byteAt : mm_Y := (yX12_byteAt, cX12_byteAt, 2, (some .int))
def Y_X12_isDigit : mm_Y := (yX12_isDigit, cX12_isDigit, 1, (some .boolean))
def Y_X12_factOf : mm_Y := (yX12_factOf, cX12_factOf, 1, (some .int))
def Y_X12_isSign : mm_Y := (yX12_isSign, cX12_isSign, 1, (some .boolean))
def Y_X12_ruleOn : mm_Y := (yX12_ruleOn, cX12_ruleOn, 5, (some .int))
def Y_X12_findFacts : mm_Y := (yX12_findFacts, cX12_findFacts, 8, none)
def Y_X12_feed : mm_Y := (yX12_feed, cX12_feed, 5, (some .int))
def Y_X12_rule : mm_Y := (yX12_rule, cX12_rule, 4, (some .int))
def Y_X12_force : mm_Y := (yX12_force, cX12_force, 4, (some .int))
def Y_X12_test : mm_Y := (yX12_test, cX12_test, 7, (some .int))
def Y_X12_isTest : mm_Y := (yX12_isTest, cX12_isTest, 2, (some .boolean))
def Y_X12_appeal : mm_Y := (yX12_appeal, cX12_appeal, 2, (some .int))
def Y_X12_testOf : mm_Y := (yX12_testOf, cX12_testOf, 4, (some .int))
def Y_X12_wrongDay : mm_Y := (yX12_wrongDay, cX12_wrongDay, 1, (some .int))
def Y_X12_fact : mm_Y := (yX12_fact, cX12_fact, 4, (some .int))
def Y_X12_stepOn : mm_Y := (yX12_stepOn, cX12_stepOn, 7, (some .int))
def Y_X12_step : mm_Y := (yX12_step, cX12_step, 4, (some .int))
def Y_X12_lost : mm_Y := (yX12_lost, cX12_lost, 3, (some .int))
def Y_X12_leave : mm_Y := (yX12_leave, cX12_leave, 3, (some .int))
def Y_X12_farFrom : mm_Y := (yX12_farFrom, cX12_farFrom, 7, (some .int))
def Y_X12_allowed : mm_Y := (yX12_allowed, cX12_allowed, 6, (some .int))
def Y_X12_findWays : mm_Y := (yX12_findWays, cX12_findWays, 6, none)
def Y_X12_timeOf : mm_Y := (yX12_timeOf, cX12_timeOf, 2, (some .int))
def Y_X12_ones : mm_Y := (yX12_ones, cX12_ones, 3, (some .int))
def Y_X12_findWork : mm_Y := (yX12_findWork, cX12_findWork, 10, none)
def Y_X12_wrongWork : mm_Y := (yX12_wrongWork, cX12_wrongWork, 3, (some .int))
def Y_X12_work : mm_Y := (yX12_work, cX12_work, 4, (some .int))
def Y_X12_workAt : mm_Y := (yX12_workAt, cX12_workAt, 11, (some .int))
def Y_X12_letters : mm_Y := (yX12_letters, cX12_letters, 7, (some .int))
def Y_X12_letter : mm_Y := (yX12_letter, cX12_letter, 2, (some .int))
def Y_X12_countIn : mm_Y := (yX12_countIn, cX12_countIn, 5, none)
def Y_X12_noTable : mm_Y := (yX12_noTable, cX12_noTable, 2, none)
def Y_X12_chance : mm_Y := (yX12_chance, cX12_chance, 10, (some .long))
def Y_X12_ways : mm_Y := (yX12_ways, cX12_ways, 5, (some .long))
def Y_X12_helped : mm_Y := (yX12_helped, cX12_helped, 4, (some .long))
def Y_X12_wards : mm_Y := (yX12_wards, cX12_wards, 6, (some .long))
def Y_X12_clerk : mm_Y := (yX12_clerk, cX12_clerk, 6, (some .int))
def Y_X12_clerkOf : mm_Y := (yX12_clerkOf, cX12_clerkOf, 5, (some .int))
def Y_X12_tallied : mm_Y := (yX12_tallied, cX12_tallied, 5, (some .int))
def Y_X12_tally : mm_Y := (yX12_tally, cX12_tally, 3, (some .int))
def Y_X12_worst : mm_Y := (yX12_worst, cX12_worst, 7, (some .int))
def Y_X12_cost : mm_Y := (yX12_cost, cX12_cost, 4, (some .int))
def Y_X12_isPaid : mm_Y := (yX12_isPaid, cX12_isPaid, 8, (some .boolean))
def Y_X12_most : mm_Y := (yX12_most, cX12_most, 3, (some .int))
def Y_X12_count : mm_Y := (yX12_count, cX12_count, 4, (some .int))
def Y_X8_readDeeper : mm_Y := (yX8_readDeeper, cX8_readDeeper, 3, none)
def Y_X8_peek : mm_Y := (yX8_peek, cX8_peek, 1, (some .int))
def Y_X8_fail : mm_Y := (yX8_fail, cX8_fail, 1, none)
def Y_X8_put : mm_Y := (yX8_put, cX8_put, 2, none)
def Y_X8_readPart : mm_Y := (yX8_readPart, cX8_readPart, 3, none)
def Y_X8_readSum : mm_Y := (yX8_readSum, cX8_readSum, 3, none)
def Y_X8_readUnit : mm_Y := (yX8_readUnit, cX8_readUnit, 4, none)
def Y_X8_isDigit : mm_Y := (yX8_isDigit, cX8_isDigit, 1, (some .boolean))
def Y_X11_isFact : mm_Y := (yX11_isFact, cX11_isFact, 1, (some .boolean))
def Y_X8_readTerm : mm_Y := (yX8_readTerm, cX8_readTerm, 3, none)
def Y_X8_readChoice : mm_Y := (yX8_readChoice, cX8_readChoice, 3, none)
def Y_X8_translate : mm_Y := (yX8_translate, cX8_translate, 1, (some .int))
def Y_X11_days : mm_Y := (yX11_days, cX11_days, 2, (some .int))
def Y_X11_refuse : mm_Y := (yX11_refuse, cX11_refuse, 3, (some .int))
def Y_X11_shop : mm_Y := (yX11_shop, cX11_shop, 5, (some .int))
def Y_X11_isKind : mm_Y := (yX11_isKind, cX11_isKind, 1, (some .boolean))
def Y_X11_isWard : mm_Y := (yX11_isWard, cX11_isWard, 1, (some .boolean))
def Y_X6_add : mm_Y := (yX6_add, cX6_add, 7, (some .int))
def Y_X6_addOwner : mm_Y := (yX6_addOwner, cX6_addOwner, 3, (some .int))
def Y_X6_has : mm_Y := (yX6_has, cX6_has, 2, (some .boolean))
def Y_X11_weight : mm_Y := (yX11_weight, cX11_weight, 5, (some .int))
def Y_X11_outside : mm_Y := (yX11_outside, cX11_outside, 3, (some .int))
def Y_X11_open : mm_Y := (yX11_open, cX11_open, 3, (some .int))
def Y_X11_sell : mm_Y := (yX11_sell, cX11_sell, 2, (some .int))
def Y_X6_ownedSince : mm_Y := (yX6_ownedSince, cX6_ownedSince, 2, (some .int))
def Y_X11_child : mm_Y := (yX11_child, cX11_child, 4, (some .int))
def Y_X0_has : mm_Y := (yX0_has, cX0_has, 2, (some .boolean))
def Y_X0_tell : mm_Y := (yX0_tell, cX0_tell, 5, (some .boolean))
def Y_X11_guess : mm_Y := (yX11_guess, cX11_guess, 3, (some .int))
def Y_X0_addGuess : mm_Y := (yX0_addGuess, cX0_addGuess, 6, (some .int))
def Y_X11_childOf : mm_Y := (yX11_childOf, cX11_childOf, 3, (some .int))
def Y_X0_looks : mm_Y := (yX0_looks, cX0_looks, 3, (some .int))
def Y_X0_age : mm_Y := (yX0_age, cX0_age, 3, (some .int))
def Y_X11_known : mm_Y := (yX11_known, cX11_known, 4, (some .int))
def Y_X0_setKnown : mm_Y := (yX0_setKnown, cX0_setKnown, 4, (some .boolean))
def Y_X11_draw : mm_Y := (yX11_draw, cX11_draw, 3, (some .int))
def Y_X6_openOnes : mm_Y := (yX6_openOnes, cX6_openOnes, 3, (some .int))
def Y_X11_takeLettersAway : mm_Y := (yX11_takeLettersAway, cX11_takeLettersAway, 2, none)
def Y_X2_reckon : mm_Y := (yX2_reckon, cX2_reckon, 4, none)
def Y_X2_makeSure : mm_Y := (yX2_makeSure, cX2_makeSure, 5, (some .boolean))
def Y_X2_isOther : mm_Y := (yX2_isOther, cX2_isOther, 2, (some .boolean))
def Y_X2_take : mm_Y := (yX2_take, cX2_take, 5, (some .int))
def Y_X11_drawn : mm_Y := (yX11_drawn, cX11_drawn, 3, (some .int))
def Y_X2_partsAbove : mm_Y := (yX2_partsAbove, cX2_partsAbove, 2, (some .long))
def Y_X2_partsBelow : mm_Y := (yX2_partsBelow, cX2_partsBelow, 2, (some .long))
def Y_X3_become : mm_Y := (yX3_become, cX3_become, 7, none)
def Y_X3_commonDivisor : mm_Y := (yX3_commonDivisor, cX3_commonDivisor, 11, (some .long))
def Y_X11_feed : mm_Y := (yX11_feed, cX11_feed, 4, (some .int))
def Y_X8_append : mm_Y := (yX8_append, cX8_append, 7, (some .int))
def Y_X11_rule : mm_Y := (yX11_rule, cX11_rule, 4, (some .int))
def Y_X11_isUse : mm_Y := (yX11_isUse, cX11_isUse, 1, (some .boolean))
def Y_X5_add : mm_Y := (yX5_add, cX5_add, 7, (some .int))
def Y_X11_force : mm_Y := (yX11_force, cX11_force, 4, (some .int))
def Y_X5_inForce : mm_Y := (yX5_inForce, cX5_inForce, 6, (some .int))
def Y_X11_test : mm_Y := (yX11_test, cX11_test, 7, (some .int))
def Y_X11_mayBeTestedOn : mm_Y := (yX11_mayBeTestedOn, cX11_mayBeTestedOn, 3, (some .boolean))
def Y_X6_ownerOn : mm_Y := (yX6_ownerOn, cX6_ownerOn, 5, (some .int))
def Y_X9_latestDay : mm_Y := (yX9_latestDay, cX9_latestDay, 1, (some .int))
def Y_X9_add : mm_Y := (yX9_add, cX9_add, 8, (some .int))
def Y_X11_appeal : mm_Y := (yX11_appeal, cX11_appeal, 2, (some .int))
def Y_X9_has : mm_Y := (yX9_has, cX9_has, 2, (some .boolean))
def Y_X9_isVoided : mm_Y := (yX9_isVoided, cX9_isVoided, 2, (some .boolean))
def Y_X11_testOf : mm_Y := (yX11_testOf, cX11_testOf, 5, (some .int))
def Y_X10_weigh : mm_Y := (yX10_weigh, cX10_weigh, 4, none)
def Y_X9_countsAsOf : mm_Y := (yX9_countsAsOf, cX9_countsAsOf, 3, (some .boolean))
def Y_X10_gather : mm_Y := (yX10_gather, cX10_gather, 7, none)
def Y_X0_isKnown : mm_Y := (yX0_isKnown, cX0_isKnown, 3, (some .boolean))
def Y_X10_ownerOf : mm_Y := (yX10_ownerOf, cX10_ownerOf, 2, (some .int))
def Y_X10_visitOf : mm_Y := (yX10_visitOf, cX10_visitOf, 4, (some .int))
def Y_X10_settle : mm_Y := (yX10_settle, cX10_settle, 5, none)
def Y_X5_holds : mm_Y := (yX5_holds, cX5_holds, 5, (some .boolean))
def Y_X5_value : mm_Y := (yX5_value, cX5_value, 6, (some .int))
def Y_X5_join : mm_Y := (yX5_join, cX5_join, 3, (some .int))
def Y_X5_unit : mm_Y := (yX5_unit, cX5_unit, 3, (some .int))
def Y_X9_isSold : mm_Y := (yX9_isSold, cX9_isSold, 2, (some .boolean))
def Y_X10_forget : mm_Y := (yX10_forget, cX10_forget, 2, none)
def Y_J7_fill_53178 : mm_Y := (yJ7_fill_53178, cJ7_fill_53178, 4, none)
def Y_X11_fact : mm_Y := (yX11_fact, cX11_fact, 5, (some .int))
def Y_X11_step : mm_Y := (yX11_step, cX11_step, 4, (some .int))
def Y_X9_until : mm_Y := (yX9_until, cX9_until, 4, (some .int))
def Y_X10_stepOf : mm_Y := (yX10_stepOf, cX10_stepOf, 4, (some .int))
def Y_X11_lost : mm_Y := (yX11_lost, cX11_lost, 3, (some .int))
def Y_X11_leave : mm_Y := (yX11_leave, cX11_leave, 4, (some .int))
def Y_X11_work : mm_Y := (yX11_work, cX11_work, 5, (some .int))
def Y_X11_planWork : mm_Y := (yX11_planWork, cX11_planWork, 4, none)
def Y_X11_mayGo : mm_Y := (yX11_mayGo, cX11_mayGo, 3, (some .boolean))
def Y_X9_anyOf : mm_Y := (yX9_anyOf, cX9_anyOf, 4, (some .boolean))
def Y_X4_addStop : mm_Y := (yX4_addStop, cX4_addStop, 6, none)
def Y_X4_plan : mm_Y := (yX4_plan, cX4_plan, 5, none)
def Y_X4_isAllowed : mm_Y := (yX4_isAllowed, cX4_isAllowed, 3, (some .boolean))
def Y_X4_bit : mm_Y := (yX4_bit, cX4_bit, 2, (some .int))
def Y_X4_all : mm_Y := (yX4_all, cX4_all, 1, (some .int))
def Y_X4_offer : mm_Y := (yX4_offer, cX4_offer, 5, none)
def Y_X4_reckonTimes : mm_Y := (yX4_reckonTimes, cX4_reckonTimes, 5, none)
def Y_X4_shortestTo : mm_Y := (yX4_shortestTo, cX4_shortestTo, 5, (some .int))
def Y_X4_leg : mm_Y := (yX4_leg, cX4_leg, 3, (some .int))
def Y_J6_bitCount_0f7a4 : mm_Y := (yJ6_bitCount_0f7a4, cJ6_bitCount_0f7a4, 1, (some .int))
def Y_X4_clear : mm_Y := (yX4_clear, cX4_clear, 1, none)
def Y_X11_workRefusal : mm_Y := (yX11_workRefusal, cX11_workRefusal, 3, (some .int))
def Y_X11_workAt : mm_Y := (yX11_workAt, cX11_workAt, 6, (some .int))
def Y_X4_stopAt : mm_Y := (yX4_stopAt, cX4_stopAt, 6, (some .int))
def Y_X4_nextStop : mm_Y := (yX4_nextStop, cX4_nextStop, 6, (some .int))
def Y_X11_letters : mm_Y := (yX11_letters, cX11_letters, 3, (some .int))
def Y_X11_giveLetters : mm_Y := (yX11_giveLetters, cX11_giveLetters, 6, none)
def Y_X11_letter : mm_Y := (yX11_letter, cX11_letter, 2, (some .int))
def Y_X11_helped : mm_Y := (yX11_helped, cX11_helped, 5, (some .long))
def Y_X11_enter : mm_Y := (yX11_enter, cX11_enter, 5, none)
def Y_X10_firstGood : mm_Y := (yX10_firstGood, cX10_firstGood, 4, (some .int))
def Y_X7_put : mm_Y := (yX7_put, cX7_put, 4, none)
def Y_X7_tell : mm_Y := (yX7_tell, cX7_tell, 2, (some .long))
def Y_X7_reckonChance : mm_Y := (yX7_reckonChance, cX7_reckonChance, 5, none)
def Y_X7_waysToChoose : mm_Y := (yX7_waysToChoose, cX7_waysToChoose, 5, (some .long))
def Y_X11_tableRefusal : mm_Y := (yX11_tableRefusal, cX11_tableRefusal, 2, (some .int))
def Y_X7_clear : mm_Y := (yX7_clear, cX7_clear, 1, none)
def Y_X11_wards : mm_Y := (yX11_wards, cX11_wards, 7, (some .long))
def Y_X11_clerk : mm_Y := (yX11_clerk, cX11_clerk, 6, (some .int))
def Y_X1_add : mm_Y := (yX1_add, cX1_add, 6, (some .int))
def Y_X11_tally : mm_Y := (yX11_tally, cX11_tally, 3, (some .int))
def Y_X11_tallyClerks : mm_Y := (yX11_tallyClerks, cX11_tallyClerks, 3, none)
def Y_X1_standing : mm_Y := (yX1_standing, cX1_standing, 6, (some .int))
def Y_X1_addToTally : mm_Y := (yX1_addToTally, cX1_addToTally, 3, none)
def Y_X1_clearTally : mm_Y := (yX1_clearTally, cX1_clearTally, 1, none)
def Y_X11_worst : mm_Y := (yX11_worst, cX11_worst, 1, (some .int))
def Y_X1_worstOne : mm_Y := (yX1_worstOne, cX1_worstOne, 3, (some .int))
def Y_X11_cost : mm_Y := (yX11_cost, cX11_cost, 5, (some .int))
def Y_X11_most : mm_Y := (yX11_most, cX11_most, 4, (some .int))
def Y_X2_costsAtMost : mm_Y := (yX2_costsAtMost, cX2_costsAtMost, 8, (some .boolean))
def Y_X11_count : mm_Y := (yX11_count, cX11_count, 2, (some .int))
def Y_X0_toldOnes : mm_Y := (yX0_toldOnes, cX0_toldOnes, 3, (some .int))
def Y_X9_voidedOnes : mm_Y := (yX9_voidedOnes, cX9_voidedOnes, 3, (some .int))
def Y_X11_goodNow : mm_Y := (yX11_goodNow, cX11_goodNow, 4, (some .int))
def Y_X11_weighBack : mm_Y := (yX11_weighBack, cX11_weighBack, 3, none)
def Y_X3_add : mm_Y := (yX3_add, cX3_add, 5, none)
def Y_X10_latestGoodSold : mm_Y := (yX10_latestGoodSold, cX10_latestGoodSold, 4, (some .boolean))
def Y_J9_max_7cf53 : mm_Y := (yJ9_max_7cf53, cJ9_max_7cf53, 2, (some .int))
def Y_J9_min_7cf53 : mm_Y := (yJ9_min_7cf53, cJ9_min_7cf53, 2, (some .int))
def Y_J9_abs_0f7a4 : mm_Y := (yJ9_abs_0f7a4, cJ9_abs_0f7a4, 1, (some .int))
set_option maxRecDepth 20000 in
theorem cv_X12_thrown : mm_cv Y_X12_thrown 12 0 := ⟨⟨mm_tbk mm_t1 14 rfl rfl, mm_tbk mm_t6 151 rfl rfl, ⟨by decide +kernel, by decide +kernel, by decide +kernel⟩, Nat.le_of_ble_eq_true rfl⟩, mm_tbk mm_t6 149 rfl rfl, mm_tbk mm_t6 150 rfl rfl, TX12, 77, rfl⟩
set_option maxRecDepth 20000 in
theorem cv_X12_refuse : mm_cv Y_X12_refuse 12 1 := ⟨⟨mm_tbk mm_t1 14 rfl rfl, mm_tbk mm_t6 159 rfl rfl, ⟨by decide +kernel, by decide +kernel, by decide +kernel⟩, Nat.le_of_ble_eq_true rfl⟩, mm_tbk mm_t6 158 rfl rfl, mm_tbk mm_t0 37 rfl rfl, TX12, 77, rfl⟩
set_option maxRecDepth 20000 in
theorem cv_X12_isShop : mm_cv Y_X12_isShop 12 1 := ⟨⟨mm_tbk mm_t1 14 rfl rfl, mm_tbk mm_t6 174 rfl rfl, ⟨by decide +kernel, by decide +kernel, by decide +kernel⟩, Nat.le_of_ble_eq_true rfl⟩, mm_tbk mm_t6 173 rfl rfl, mm_tbk mm_t0 38 rfl rfl, TX12, 77, rfl⟩
set_option maxRecDepth 20000 in
theorem cs_X12_in : mm_cs Y_X12_in 3 := ⟨⟨mm_tbk mm_t1 14 rfl rfl, mm_tbk mm_t6 166 rfl rfl, ⟨by decide +kernel, by decide +kernel, by decide +kernel⟩, Nat.le_of_ble_eq_true rfl⟩, mm_tbk mm_t6 165 rfl rfl⟩
set_option maxRecDepth 20000 in
theorem cv_X12_days : mm_cv Y_X12_days 12 1 := ⟨⟨mm_tbk mm_t1 14 rfl rfl, mm_tbk mm_t6 155 rfl rfl, ⟨by decide +kernel, by decide +kernel, by decide +kernel⟩, Nat.le_of_ble_eq_true rfl⟩, mm_tbk mm_t6 153 rfl rfl, mm_tbk mm_t6 154 rfl rfl, TX12, 77, rfl⟩
set_option maxRecDepth 20000 in
theorem cv_X12_shop : mm_cv Y_X12_shop 12 4 := ⟨⟨mm_tbk mm_t1 14 rfl rfl, mm_tbk mm_t6 163 rfl rfl, ⟨by decide +kernel, by decide +kernel, by decide +kernel⟩, Nat.le_of_ble_eq_true rfl⟩, mm_tbk mm_t6 161 rfl rfl, mm_tbk mm_t6 162 rfl rfl, TX12, 77, rfl⟩
set_option maxRecDepth 20000 in
theorem cv_X12_weight : mm_cv Y_X12_weight 12 2 := ⟨⟨mm_tbk mm_t1 14 rfl rfl, mm_tbk mm_t6 170 rfl rfl, ⟨by decide +kernel, by decide +kernel, by decide +kernel⟩, Nat.le_of_ble_eq_true rfl⟩, mm_tbk mm_t6 168 rfl rfl, mm_tbk mm_t6 169 rfl rfl, TX12, 77, rfl⟩
set_option maxRecDepth 20000 in
theorem cv_X12_open : mm_cv Y_X12_open 12 2 := ⟨⟨mm_tbk mm_t1 14 rfl rfl, mm_tbk mm_t6 178 rfl rfl, ⟨by decide +kernel, by decide +kernel, by decide +kernel⟩, Nat.le_of_ble_eq_true rfl⟩, mm_tbk mm_t6 176 rfl rfl, mm_tbk mm_t6 177 rfl rfl, TX12, 77, rfl⟩
set_option maxRecDepth 20000 in
theorem cv_X12_sell : mm_cv Y_X12_sell 12 1 := ⟨⟨mm_tbk mm_t1 14 rfl rfl, mm_tbk mm_t6 182 rfl rfl, ⟨by decide +kernel, by decide +kernel, by decide +kernel⟩, Nat.le_of_ble_eq_true rfl⟩, mm_tbk mm_t6 180 rfl rfl, mm_tbk mm_t6 181 rfl rfl, TX12, 77, rfl⟩
set_option maxRecDepth 20000 in
theorem cv_X12_ownerOn : mm_cv Y_X12_ownerOn 12 2 := ⟨⟨mm_tbk mm_t1 14 rfl rfl, mm_tbk mm_t7 17 rfl rfl, ⟨by decide +kernel, by decide +kernel, by decide +kernel⟩, Nat.le_of_ble_eq_true rfl⟩, mm_tbk mm_t7 16 rfl rfl, mm_tbk mm_t0 48 rfl rfl, TX12, 77, rfl⟩
set_option maxRecDepth 20000 in
theorem cv_X12_child : mm_cv Y_X12_child 12 2 := ⟨⟨mm_tbk mm_t1 14 rfl rfl, mm_tbk mm_t6 186 rfl rfl, ⟨by decide +kernel, by decide +kernel, by decide +kernel⟩, Nat.le_of_ble_eq_true rfl⟩, mm_tbk mm_t6 184 rfl rfl, mm_tbk mm_t6 185 rfl rfl, TX12, 77, rfl⟩
set_option maxRecDepth 20000 in
theorem cv_X12_lacks : mm_cv Y_X12_lacks 12 1 := ⟨⟨mm_tbk mm_t1 14 rfl rfl, mm_tbk mm_t6 194 rfl rfl, ⟨by decide +kernel, by decide +kernel, by decide +kernel⟩, Nat.le_of_ble_eq_true rfl⟩, mm_tbk mm_t6 193 rfl rfl, mm_tbk mm_t0 39 rfl rfl, TX12, 77, rfl⟩
set_option maxRecDepth 20000 in
theorem cv_X12_guess : mm_cv Y_X12_guess 12 2 := ⟨⟨mm_tbk mm_t1 14 rfl rfl, mm_tbk mm_t6 190 rfl rfl, ⟨by decide +kernel, by decide +kernel, by decide +kernel⟩, Nat.le_of_ble_eq_true rfl⟩, mm_tbk mm_t6 188 rfl rfl, mm_tbk mm_t6 189 rfl rfl, TX12, 77, rfl⟩
set_option maxRecDepth 20000 in
theorem cv_X12_ageOn : mm_cv Y_X12_ageOn 12 2 := ⟨⟨mm_tbk mm_t1 14 rfl rfl, mm_tbk mm_t6 202 rfl rfl, ⟨by decide +kernel, by decide +kernel, by decide +kernel⟩, Nat.le_of_ble_eq_true rfl⟩, mm_tbk mm_t6 201 rfl rfl, mm_tbk mm_t0 40 rfl rfl, TX12, 77, rfl⟩
set_option maxRecDepth 20000 in
theorem cv_X12_looksOn : mm_cv Y_X12_looksOn 12 2 := ⟨⟨mm_tbk mm_t1 14 rfl rfl, mm_tbk mm_t6 206 rfl rfl, ⟨by decide +kernel, by decide +kernel, by decide +kernel⟩, Nat.le_of_ble_eq_true rfl⟩, mm_tbk mm_t6 205 rfl rfl, mm_tbk mm_t0 41 rfl rfl, TX12, 77, rfl⟩
set_option maxRecDepth 20000 in
theorem cv_X12_childOf : mm_cv Y_X12_childOf 12 2 := ⟨⟨mm_tbk mm_t1 14 rfl rfl, mm_tbk mm_t6 198 rfl rfl, ⟨by decide +kernel, by decide +kernel, by decide +kernel⟩, Nat.le_of_ble_eq_true rfl⟩, mm_tbk mm_t6 196 rfl rfl, mm_tbk mm_t6 197 rfl rfl, TX12, 77, rfl⟩
set_option maxRecDepth 20000 in
theorem cv_X12_known : mm_cv Y_X12_known 12 3 := ⟨⟨mm_tbk mm_t1 14 rfl rfl, mm_tbk mm_t6 210 rfl rfl, ⟨by decide +kernel, by decide +kernel, by decide +kernel⟩, Nat.le_of_ble_eq_true rfl⟩, mm_tbk mm_t6 208 rfl rfl, mm_tbk mm_t6 209 rfl rfl, TX12, 77, rfl⟩
set_option maxRecDepth 20000 in
theorem cv_X12_openMany : mm_cv Y_X12_openMany 12 0 := ⟨⟨mm_tbk mm_t1 14 rfl rfl, mm_tbk mm_t6 218 rfl rfl, ⟨by decide +kernel, by decide +kernel, by decide +kernel⟩, Nat.le_of_ble_eq_true rfl⟩, mm_tbk mm_t6 217 rfl rfl, mm_tbk mm_t0 42 rfl rfl, TX12, 77, rfl⟩
set_option maxRecDepth 20000 in
theorem cv_X12_findSure : mm_cv Y_X12_findSure 12 1 := ⟨⟨mm_tbk mm_t1 14 rfl rfl, mm_tbk mm_t6 222 rfl rfl, ⟨by decide +kernel, by decide +kernel, by decide +kernel⟩, Nat.le_of_ble_eq_true rfl⟩, mm_tbk mm_t6 221 rfl rfl, mm_tbk mm_t0 43 rfl rfl, TX12, 77, rfl⟩
set_option maxRecDepth 20000 in
theorem cv_X12_draw : mm_cv Y_X12_draw 12 2 := ⟨⟨mm_tbk mm_t1 14 rfl rfl, mm_tbk mm_t6 214 rfl rfl, ⟨by decide +kernel, by decide +kernel, by decide +kernel⟩, Nat.le_of_ble_eq_true rfl⟩, mm_tbk mm_t6 212 rfl rfl, mm_tbk mm_t6 213 rfl rfl, TX12, 77, rfl⟩
set_option maxRecDepth 20000 in
theorem cs_X12_divisor : mm_cs Y_X12_divisor 2 := ⟨⟨mm_tbk mm_t1 14 rfl rfl, mm_tbk mm_t6 229 rfl rfl, ⟨by decide +kernel, by decide +kernel, by decide +kernel⟩, Nat.le_of_ble_eq_true rfl⟩, mm_tbk mm_t6 228 rfl rfl⟩
set_option maxRecDepth 20000 in
theorem cs_X12_below : mm_cs Y_X12_below 3 := ⟨⟨mm_tbk mm_t1 14 rfl rfl, mm_tbk mm_t6 233 rfl rfl, ⟨by decide +kernel, by decide +kernel, by decide +kernel⟩, Nat.le_of_ble_eq_true rfl⟩, mm_tbk mm_t6 232 rfl rfl⟩
set_option maxRecDepth 20000 in
theorem cv_X12_noLetters : mm_cv Y_X12_noLetters 12 0 := ⟨⟨mm_tbk mm_t1 14 rfl rfl, mm_tbk mm_t6 226 rfl rfl, ⟨by decide +kernel, by decide +kernel, by decide +kernel⟩, Nat.le_of_ble_eq_true rfl⟩, mm_tbk mm_t6 225 rfl rfl, mm_tbk mm_t0 44 rfl rfl, TX12, 77, rfl⟩
set_option maxRecDepth 20000 in
theorem cv_X12_drawn : mm_cv Y_X12_drawn 12 2 := ⟨⟨mm_tbk mm_t1 14 rfl rfl, mm_tbk mm_t6 237 rfl rfl, ⟨by decide +kernel, by decide +kernel, by decide +kernel⟩, Nat.le_of_ble_eq_true rfl⟩, mm_tbk mm_t6 235 rfl rfl, mm_tbk mm_t6 236 rfl rfl, TX12, 77, rfl⟩
set_option maxRecDepth 20000 in
theorem cv_X12_addBack : mm_cv Y_X12_addBack 12 1 := ⟨⟨mm_tbk mm_t1 14 rfl rfl, mm_tbk mm_t7 78 rfl rfl, ⟨by decide +kernel, by decide +kernel, by decide +kernel⟩, Nat.le_of_ble_eq_true rfl⟩, mm_tbk mm_t7 77 rfl rfl, mm_tbk mm_t0 61 rfl rfl, TX12, 77, rfl⟩
set_option maxRecDepth 20000 in
theorem cv_X12_back : mm_cv Y_X12_back 12 1 := ⟨⟨mm_tbk mm_t1 14 rfl rfl, mm_tbk mm_t7 1 rfl rfl, ⟨by decide +kernel, by decide +kernel, by decide +kernel⟩, Nat.le_of_ble_eq_true rfl⟩, mm_tbk mm_t6 239 rfl rfl, mm_tbk mm_t7 0 rfl rfl, TX12, 77, rfl⟩
set_option maxRecDepth 20000 in
theorem cv_X12_weigh : mm_cv Y_X12_weigh 12 1 := ⟨⟨mm_tbk mm_t1 14 rfl rfl, mm_tbk mm_t7 5 rfl rfl, ⟨by decide +kernel, by decide +kernel, by decide +kernel⟩, Nat.le_of_ble_eq_true rfl⟩, mm_tbk mm_t7 4 rfl rfl, mm_tbk mm_t0 45 rfl rfl, TX12, 77, rfl⟩
set_option maxRecDepth 20000 in
theorem cv_X12_countsBy : mm_cv Y_X12_countsBy 12 2 := ⟨⟨mm_tbk mm_t1 14 rfl rfl, mm_tbk mm_t7 9 rfl rfl, ⟨by decide +kernel, by decide +kernel, by decide +kernel⟩, Nat.le_of_ble_eq_true rfl⟩, mm_tbk mm_t7 8 rfl rfl, mm_tbk mm_t0 46 rfl rfl, TX12, 77, rfl⟩
set_option maxRecDepth 20000 in
theorem cv_X12_weighOne : mm_cv Y_X12_weighOne 12 1 := ⟨⟨mm_tbk mm_t1 14 rfl rfl, mm_tbk mm_t7 13 rfl rfl, ⟨by decide +kernel, by decide +kernel, by decide +kernel⟩, Nat.le_of_ble_eq_true rfl⟩, mm_tbk mm_t7 12 rfl rfl, mm_tbk mm_t0 47 rfl rfl, TX12, 77, rfl⟩
set_option maxRecDepth 20000 in
theorem cv_X12_holds : mm_cv Y_X12_holds 12 1 := ⟨⟨mm_tbk mm_t1 14 rfl rfl, mm_tbk mm_t7 29 rfl rfl, ⟨by decide +kernel, by decide +kernel, by decide +kernel⟩, Nat.le_of_ble_eq_true rfl⟩, mm_tbk mm_t7 28 rfl rfl, mm_tbk mm_t0 51 rfl rfl, TX12, 77, rfl⟩
set_option maxRecDepth 20000 in
theorem cv_X12_readText : mm_cv Y_X12_readText 12 0 := ⟨⟨mm_tbk mm_t1 14 rfl rfl, mm_tbk mm_t7 33 rfl rfl, ⟨by decide +kernel, by decide +kernel, by decide +kernel⟩, Nat.le_of_ble_eq_true rfl⟩, mm_tbk mm_t7 32 rfl rfl, mm_tbk mm_t0 52 rfl rfl, TX12, 77, rfl⟩
set_option maxRecDepth 20000 in
theorem cv_X12_settle : mm_cv Y_X12_settle 12 1 := ⟨⟨mm_tbk mm_t1 14 rfl rfl, mm_tbk mm_t7 74 rfl rfl, ⟨by decide +kernel, by decide +kernel, by decide +kernel⟩, Nat.le_of_ble_eq_true rfl⟩, mm_tbk mm_t7 73 rfl rfl, mm_tbk mm_t0 60 rfl rfl, TX12, 77, rfl⟩
set_option maxRecDepth 20000 in
theorem cv_X12_topSign : mm_cv Y_X12_topSign 12 0 := ⟨⟨mm_tbk mm_t1 14 rfl rfl, mm_tbk mm_t7 70 rfl rfl, ⟨by decide +kernel, by decide +kernel, by decide +kernel⟩, Nat.le_of_ble_eq_true rfl⟩, mm_tbk mm_t7 69 rfl rfl, mm_tbk mm_t0 59 rfl rfl, TX12, 77, rfl⟩
set_option maxRecDepth 20000 in
theorem cv_X12_settleNots : mm_cv Y_X12_settleNots 12 0 := ⟨⟨mm_tbk mm_t1 14 rfl rfl, mm_tbk mm_t7 66 rfl rfl, ⟨by decide +kernel, by decide +kernel, by decide +kernel⟩, Nat.le_of_ble_eq_true rfl⟩, mm_tbk mm_t7 65 rfl rfl, mm_tbk mm_t0 58 rfl rfl, TX12, 77, rfl⟩
set_option maxRecDepth 20000 in
theorem cv_X12_wait : mm_cv Y_X12_wait 12 1 := ⟨⟨mm_tbk mm_t1 14 rfl rfl, mm_tbk mm_t7 41 rfl rfl, ⟨by decide +kernel, by decide +kernel, by decide +kernel⟩, Nat.le_of_ble_eq_true rfl⟩, mm_tbk mm_t7 40 rfl rfl, mm_tbk mm_t0 54 rfl rfl, TX12, 77, rfl⟩
set_option maxRecDepth 20000 in
theorem cv_X12_readPart : mm_cv Y_X12_readPart 12 0 := ⟨⟨mm_tbk mm_t1 14 rfl rfl, mm_tbk mm_t7 45 rfl rfl, ⟨by decide +kernel, by decide +kernel, by decide +kernel⟩, Nat.le_of_ble_eq_true rfl⟩, mm_tbk mm_t7 44 rfl rfl, mm_tbk mm_t0 55 rfl rfl, TX12, 77, rfl⟩
set_option maxRecDepth 20000 in
theorem cv_X12_readSum : mm_cv Y_X12_readSum 12 0 := ⟨⟨mm_tbk mm_t1 14 rfl rfl, mm_tbk mm_t7 49 rfl rfl, ⟨by decide +kernel, by decide +kernel, by decide +kernel⟩, Nat.le_of_ble_eq_true rfl⟩, mm_tbk mm_t7 48 rfl rfl, mm_tbk mm_t0 56 rfl rfl, TX12, 77, rfl⟩
set_option maxRecDepth 20000 in
theorem cv_X12_readUnit : mm_cv Y_X12_readUnit 12 0 := ⟨⟨mm_tbk mm_t1 14 rfl rfl, mm_tbk mm_t7 53 rfl rfl, ⟨by decide +kernel, by decide +kernel, by decide +kernel⟩, Nat.le_of_ble_eq_true rfl⟩, mm_tbk mm_t7 52 rfl rfl, mm_tbk mm_t0 57 rfl rfl, TX12, 77, rfl⟩
set_option maxRecDepth 20000 in
theorem cv_X12_byteAt : mm_cv Y_X12_byteAt 12 1 := ⟨⟨mm_tbk mm_t1 14 rfl rfl, mm_tbk mm_t7 37 rfl rfl, ⟨by decide +kernel, by decide +kernel, by decide +kernel⟩, Nat.le_of_ble_eq_true rfl⟩, mm_tbk mm_t7 36 rfl rfl, mm_tbk mm_t0 53 rfl rfl, TX12, 77, rfl⟩
set_option maxRecDepth 20000 in
theorem cs_X12_isDigit : mm_cs Y_X12_isDigit 1 := ⟨⟨mm_tbk mm_t1 14 rfl rfl, mm_tbk mm_t7 59 rfl rfl, ⟨by decide +kernel, by decide +kernel, by decide +kernel⟩, Nat.le_of_ble_eq_true rfl⟩, mm_tbk mm_t7 58 rfl rfl⟩
set_option maxRecDepth 20000 in
theorem cs_X12_factOf : mm_cs Y_X12_factOf 1 := ⟨⟨mm_tbk mm_t1 14 rfl rfl, mm_tbk mm_t7 56 rfl rfl, ⟨by decide +kernel, by decide +kernel, by decide +kernel⟩, Nat.le_of_ble_eq_true rfl⟩, mm_tbk mm_t7 55 rfl rfl⟩
set_option maxRecDepth 20000 in
theorem cs_X12_isSign : mm_cs Y_X12_isSign 1 := ⟨⟨mm_tbk mm_t1 14 rfl rfl, mm_tbk mm_t7 62 rfl rfl, ⟨by decide +kernel, by decide +kernel, by decide +kernel⟩, Nat.le_of_ble_eq_true rfl⟩, mm_tbk mm_t7 61 rfl rfl⟩
set_option maxRecDepth 20000 in
theorem cv_X12_ruleOn : mm_cv Y_X12_ruleOn 12 2 := ⟨⟨mm_tbk mm_t1 14 rfl rfl, mm_tbk mm_t7 25 rfl rfl, ⟨by decide +kernel, by decide +kernel, by decide +kernel⟩, Nat.le_of_ble_eq_true rfl⟩, mm_tbk mm_t7 24 rfl rfl, mm_tbk mm_t0 50 rfl rfl, TX12, 77, rfl⟩
set_option maxRecDepth 20000 in
theorem cv_X12_findFacts : mm_cv Y_X12_findFacts 12 2 := ⟨⟨mm_tbk mm_t1 14 rfl rfl, mm_tbk mm_t7 21 rfl rfl, ⟨by decide +kernel, by decide +kernel, by decide +kernel⟩, Nat.le_of_ble_eq_true rfl⟩, mm_tbk mm_t7 20 rfl rfl, mm_tbk mm_t0 49 rfl rfl, TX12, 77, rfl⟩
set_option maxRecDepth 20000 in
theorem cv_X12_feed : mm_cv Y_X12_feed 12 2 := ⟨⟨mm_tbk mm_t1 14 rfl rfl, mm_tbk mm_t7 82 rfl rfl, ⟨by decide +kernel, by decide +kernel, by decide +kernel⟩, Nat.le_of_ble_eq_true rfl⟩, mm_tbk mm_t7 80 rfl rfl, mm_tbk mm_t7 81 rfl rfl, TX12, 77, rfl⟩
set_option maxRecDepth 20000 in
theorem cv_X12_rule : mm_cv Y_X12_rule 12 2 := ⟨⟨mm_tbk mm_t1 14 rfl rfl, mm_tbk mm_t7 87 rfl rfl, ⟨by decide +kernel, by decide +kernel, by decide +kernel⟩, Nat.le_of_ble_eq_true rfl⟩, mm_tbk mm_t7 85 rfl rfl, mm_tbk mm_t7 86 rfl rfl, TX12, 77, rfl⟩
set_option maxRecDepth 20000 in
theorem cv_X12_force : mm_cv Y_X12_force 12 2 := ⟨⟨mm_tbk mm_t1 14 rfl rfl, mm_tbk mm_t7 91 rfl rfl, ⟨by decide +kernel, by decide +kernel, by decide +kernel⟩, Nat.le_of_ble_eq_true rfl⟩, mm_tbk mm_t7 89 rfl rfl, mm_tbk mm_t7 90 rfl rfl, TX12, 77, rfl⟩
set_option maxRecDepth 20000 in
theorem cv_X12_test : mm_cv Y_X12_test 12 6 := ⟨⟨mm_tbk mm_t1 14 rfl rfl, mm_tbk mm_t7 95 rfl rfl, ⟨by decide +kernel, by decide +kernel, by decide +kernel⟩, Nat.le_of_ble_eq_true rfl⟩, mm_tbk mm_t7 93 rfl rfl, mm_tbk mm_t7 94 rfl rfl, TX12, 77, rfl⟩
set_option maxRecDepth 20000 in
theorem cv_X12_isTest : mm_cv Y_X12_isTest 12 1 := ⟨⟨mm_tbk mm_t1 14 rfl rfl, mm_tbk mm_t7 103 rfl rfl, ⟨by decide +kernel, by decide +kernel, by decide +kernel⟩, Nat.le_of_ble_eq_true rfl⟩, mm_tbk mm_t7 102 rfl rfl, mm_tbk mm_t0 62 rfl rfl, TX12, 77, rfl⟩
set_option maxRecDepth 20000 in
theorem cv_X12_appeal : mm_cv Y_X12_appeal 12 1 := ⟨⟨mm_tbk mm_t1 14 rfl rfl, mm_tbk mm_t7 99 rfl rfl, ⟨by decide +kernel, by decide +kernel, by decide +kernel⟩, Nat.le_of_ble_eq_true rfl⟩, mm_tbk mm_t7 97 rfl rfl, mm_tbk mm_t7 98 rfl rfl, TX12, 77, rfl⟩
set_option maxRecDepth 20000 in
theorem cv_X12_testOf : mm_cv Y_X12_testOf 12 3 := ⟨⟨mm_tbk mm_t1 14 rfl rfl, mm_tbk mm_t7 107 rfl rfl, ⟨by decide +kernel, by decide +kernel, by decide +kernel⟩, Nat.le_of_ble_eq_true rfl⟩, mm_tbk mm_t7 105 rfl rfl, mm_tbk mm_t7 106 rfl rfl, TX12, 77, rfl⟩
set_option maxRecDepth 20000 in
theorem cs_X12_wrongDay : mm_cs Y_X12_wrongDay 1 := ⟨⟨mm_tbk mm_t1 14 rfl rfl, mm_tbk mm_t7 110 rfl rfl, ⟨by decide +kernel, by decide +kernel, by decide +kernel⟩, Nat.le_of_ble_eq_true rfl⟩, mm_tbk mm_t7 109 rfl rfl⟩
set_option maxRecDepth 20000 in
theorem cv_X12_fact : mm_cv Y_X12_fact 12 3 := ⟨⟨mm_tbk mm_t1 14 rfl rfl, mm_tbk mm_t7 114 rfl rfl, ⟨by decide +kernel, by decide +kernel, by decide +kernel⟩, Nat.le_of_ble_eq_true rfl⟩, mm_tbk mm_t7 112 rfl rfl, mm_tbk mm_t7 113 rfl rfl, TX12, 77, rfl⟩
set_option maxRecDepth 20000 in
theorem cv_X12_stepOn : mm_cv Y_X12_stepOn 12 2 := ⟨⟨mm_tbk mm_t1 14 rfl rfl, mm_tbk mm_t7 122 rfl rfl, ⟨by decide +kernel, by decide +kernel, by decide +kernel⟩, Nat.le_of_ble_eq_true rfl⟩, mm_tbk mm_t7 121 rfl rfl, mm_tbk mm_t0 63 rfl rfl, TX12, 77, rfl⟩
set_option maxRecDepth 20000 in
theorem cv_X12_step : mm_cv Y_X12_step 12 3 := ⟨⟨mm_tbk mm_t1 14 rfl rfl, mm_tbk mm_t7 118 rfl rfl, ⟨by decide +kernel, by decide +kernel, by decide +kernel⟩, Nat.le_of_ble_eq_true rfl⟩, mm_tbk mm_t7 116 rfl rfl, mm_tbk mm_t7 117 rfl rfl, TX12, 77, rfl⟩
set_option maxRecDepth 20000 in
theorem cv_X12_lost : mm_cv Y_X12_lost 12 0 := ⟨⟨mm_tbk mm_t1 14 rfl rfl, mm_tbk mm_t7 126 rfl rfl, ⟨by decide +kernel, by decide +kernel, by decide +kernel⟩, Nat.le_of_ble_eq_true rfl⟩, mm_tbk mm_t7 124 rfl rfl, mm_tbk mm_t7 125 rfl rfl, TX12, 77, rfl⟩
set_option maxRecDepth 20000 in
theorem cv_X12_leave : mm_cv Y_X12_leave 12 1 := ⟨⟨mm_tbk mm_t1 14 rfl rfl, mm_tbk mm_t7 130 rfl rfl, ⟨by decide +kernel, by decide +kernel, by decide +kernel⟩, Nat.le_of_ble_eq_true rfl⟩, mm_tbk mm_t7 128 rfl rfl, mm_tbk mm_t7 129 rfl rfl, TX12, 77, rfl⟩
set_option maxRecDepth 20000 in
theorem cv_X12_farFrom : mm_cv Y_X12_farFrom 12 2 := ⟨⟨mm_tbk mm_t1 14 rfl rfl, mm_tbk mm_t7 154 rfl rfl, ⟨by decide +kernel, by decide +kernel, by decide +kernel⟩, Nat.le_of_ble_eq_true rfl⟩, mm_tbk mm_t7 153 rfl rfl, mm_tbk mm_t0 68 rfl rfl, TX12, 77, rfl⟩
set_option maxRecDepth 20000 in
theorem cv_X12_allowed : mm_cv Y_X12_allowed 12 1 := ⟨⟨mm_tbk mm_t1 14 rfl rfl, mm_tbk mm_t7 146 rfl rfl, ⟨by decide +kernel, by decide +kernel, by decide +kernel⟩, Nat.le_of_ble_eq_true rfl⟩, mm_tbk mm_t7 145 rfl rfl, mm_tbk mm_t0 66 rfl rfl, TX12, 77, rfl⟩
set_option maxRecDepth 20000 in
theorem cv_X12_findWays : mm_cv Y_X12_findWays 12 0 := ⟨⟨mm_tbk mm_t1 14 rfl rfl, mm_tbk mm_t7 150 rfl rfl, ⟨by decide +kernel, by decide +kernel, by decide +kernel⟩, Nat.le_of_ble_eq_true rfl⟩, mm_tbk mm_t7 149 rfl rfl, mm_tbk mm_t0 67 rfl rfl, TX12, 77, rfl⟩
set_option maxRecDepth 20000 in
theorem cv_X12_timeOf : mm_cv Y_X12_timeOf 12 1 := ⟨⟨mm_tbk mm_t1 14 rfl rfl, mm_tbk mm_t7 158 rfl rfl, ⟨by decide +kernel, by decide +kernel, by decide +kernel⟩, Nat.le_of_ble_eq_true rfl⟩, mm_tbk mm_t7 157 rfl rfl, mm_tbk mm_t0 69 rfl rfl, TX12, 77, rfl⟩
set_option maxRecDepth 20000 in
theorem cs_X12_ones : mm_cs Y_X12_ones 1 := ⟨⟨mm_tbk mm_t1 14 rfl rfl, mm_tbk mm_t7 161 rfl rfl, ⟨by decide +kernel, by decide +kernel, by decide +kernel⟩, Nat.le_of_ble_eq_true rfl⟩, mm_tbk mm_t7 160 rfl rfl⟩
set_option maxRecDepth 20000 in
theorem cv_X12_findWork : mm_cv Y_X12_findWork 12 2 := ⟨⟨mm_tbk mm_t1 14 rfl rfl, mm_tbk mm_t7 142 rfl rfl, ⟨by decide +kernel, by decide +kernel, by decide +kernel⟩, Nat.le_of_ble_eq_true rfl⟩, mm_tbk mm_t7 141 rfl rfl, mm_tbk mm_t0 65 rfl rfl, TX12, 77, rfl⟩
set_option maxRecDepth 20000 in
theorem cv_X12_wrongWork : mm_cv Y_X12_wrongWork 12 2 := ⟨⟨mm_tbk mm_t1 14 rfl rfl, mm_tbk mm_t7 138 rfl rfl, ⟨by decide +kernel, by decide +kernel, by decide +kernel⟩, Nat.le_of_ble_eq_true rfl⟩, mm_tbk mm_t7 137 rfl rfl, mm_tbk mm_t0 64 rfl rfl, TX12, 77, rfl⟩
set_option maxRecDepth 20000 in
theorem cv_X12_work : mm_cv Y_X12_work 12 3 := ⟨⟨mm_tbk mm_t1 14 rfl rfl, mm_tbk mm_t7 134 rfl rfl, ⟨by decide +kernel, by decide +kernel, by decide +kernel⟩, Nat.le_of_ble_eq_true rfl⟩, mm_tbk mm_t7 132 rfl rfl, mm_tbk mm_t7 133 rfl rfl, TX12, 77, rfl⟩
set_option maxRecDepth 20000 in
theorem cv_X12_workAt : mm_cv Y_X12_workAt 12 4 := ⟨⟨mm_tbk mm_t1 14 rfl rfl, mm_tbk mm_t7 165 rfl rfl, ⟨by decide +kernel, by decide +kernel, by decide +kernel⟩, Nat.le_of_ble_eq_true rfl⟩, mm_tbk mm_t7 163 rfl rfl, mm_tbk mm_t7 164 rfl rfl, TX12, 77, rfl⟩
set_option maxRecDepth 20000 in
theorem cv_X12_letters : mm_cv Y_X12_letters 12 1 := ⟨⟨mm_tbk mm_t1 14 rfl rfl, mm_tbk mm_t7 169 rfl rfl, ⟨by decide +kernel, by decide +kernel, by decide +kernel⟩, Nat.le_of_ble_eq_true rfl⟩, mm_tbk mm_t7 167 rfl rfl, mm_tbk mm_t7 168 rfl rfl, TX12, 77, rfl⟩
set_option maxRecDepth 20000 in
theorem cv_X12_letter : mm_cv Y_X12_letter 12 1 := ⟨⟨mm_tbk mm_t1 14 rfl rfl, mm_tbk mm_t7 175 rfl rfl, ⟨by decide +kernel, by decide +kernel, by decide +kernel⟩, Nat.le_of_ble_eq_true rfl⟩, mm_tbk mm_t7 173 rfl rfl, mm_tbk mm_t7 174 rfl rfl, TX12, 77, rfl⟩
set_option maxRecDepth 20000 in
theorem cv_X12_countIn : mm_cv Y_X12_countIn 12 3 := ⟨⟨mm_tbk mm_t1 14 rfl rfl, mm_tbk mm_t7 187 rfl rfl, ⟨by decide +kernel, by decide +kernel, by decide +kernel⟩, Nat.le_of_ble_eq_true rfl⟩, mm_tbk mm_t7 186 rfl rfl, mm_tbk mm_t0 71 rfl rfl, TX12, 77, rfl⟩
set_option maxRecDepth 20000 in
theorem cv_X12_noTable : mm_cv Y_X12_noTable 12 0 := ⟨⟨mm_tbk mm_t1 14 rfl rfl, mm_tbk mm_t7 183 rfl rfl, ⟨by decide +kernel, by decide +kernel, by decide +kernel⟩, Nat.le_of_ble_eq_true rfl⟩, mm_tbk mm_t7 182 rfl rfl, mm_tbk mm_t0 70 rfl rfl, TX12, 77, rfl⟩
set_option maxRecDepth 20000 in
theorem cv_X12_chance : mm_cv Y_X12_chance 12 1 := ⟨⟨mm_tbk mm_t1 14 rfl rfl, mm_tbk mm_t7 191 rfl rfl, ⟨by decide +kernel, by decide +kernel, by decide +kernel⟩, Nat.le_of_ble_eq_true rfl⟩, mm_tbk mm_t7 190 rfl rfl, mm_tbk mm_t0 72 rfl rfl, TX12, 77, rfl⟩
set_option maxRecDepth 20000 in
theorem cs_X12_ways : mm_cs Y_X12_ways 2 := ⟨⟨mm_tbk mm_t1 14 rfl rfl, mm_tbk mm_t7 194 rfl rfl, ⟨by decide +kernel, by decide +kernel, by decide +kernel⟩, Nat.le_of_ble_eq_true rfl⟩, mm_tbk mm_t7 193 rfl rfl⟩
set_option maxRecDepth 20000 in
theorem cv_X12_helped : mm_cv Y_X12_helped 12 2 := ⟨⟨mm_tbk mm_t1 14 rfl rfl, mm_tbk mm_t7 179 rfl rfl, ⟨by decide +kernel, by decide +kernel, by decide +kernel⟩, Nat.le_of_ble_eq_true rfl⟩, mm_tbk mm_t7 177 rfl rfl, mm_tbk mm_t7 178 rfl rfl, TX12, 77, rfl⟩
set_option maxRecDepth 20000 in
theorem cv_X12_wards : mm_cv Y_X12_wards 12 4 := ⟨⟨mm_tbk mm_t1 14 rfl rfl, mm_tbk mm_t7 199 rfl rfl, ⟨by decide +kernel, by decide +kernel, by decide +kernel⟩, Nat.le_of_ble_eq_true rfl⟩, mm_tbk mm_t7 197 rfl rfl, mm_tbk mm_t7 198 rfl rfl, TX12, 77, rfl⟩
set_option maxRecDepth 20000 in
theorem cv_X12_clerk : mm_cv Y_X12_clerk 12 5 := ⟨⟨mm_tbk mm_t1 14 rfl rfl, mm_tbk mm_t7 203 rfl rfl, ⟨by decide +kernel, by decide +kernel, by decide +kernel⟩, Nat.le_of_ble_eq_true rfl⟩, mm_tbk mm_t7 201 rfl rfl, mm_tbk mm_t7 202 rfl rfl, TX12, 77, rfl⟩
set_option maxRecDepth 20000 in
theorem cv_X12_clerkOf : mm_cv Y_X12_clerkOf 12 1 := ⟨⟨mm_tbk mm_t1 14 rfl rfl, mm_tbk mm_t7 215 rfl rfl, ⟨by decide +kernel, by decide +kernel, by decide +kernel⟩, Nat.le_of_ble_eq_true rfl⟩, mm_tbk mm_t7 214 rfl rfl, mm_tbk mm_t0 74 rfl rfl, TX12, 77, rfl⟩
set_option maxRecDepth 20000 in
theorem cv_X12_tallied : mm_cv Y_X12_tallied 12 2 := ⟨⟨mm_tbk mm_t1 14 rfl rfl, mm_tbk mm_t7 211 rfl rfl, ⟨by decide +kernel, by decide +kernel, by decide +kernel⟩, Nat.le_of_ble_eq_true rfl⟩, mm_tbk mm_t7 210 rfl rfl, mm_tbk mm_t0 73 rfl rfl, TX12, 77, rfl⟩
set_option maxRecDepth 20000 in
theorem cv_X12_tally : mm_cv Y_X12_tally 12 2 := ⟨⟨mm_tbk mm_t1 14 rfl rfl, mm_tbk mm_t7 207 rfl rfl, ⟨by decide +kernel, by decide +kernel, by decide +kernel⟩, Nat.le_of_ble_eq_true rfl⟩, mm_tbk mm_t7 205 rfl rfl, mm_tbk mm_t7 206 rfl rfl, TX12, 77, rfl⟩
set_option maxRecDepth 20000 in
theorem cv_X12_worst : mm_cv Y_X12_worst 12 0 := ⟨⟨mm_tbk mm_t1 14 rfl rfl, mm_tbk mm_t7 219 rfl rfl, ⟨by decide +kernel, by decide +kernel, by decide +kernel⟩, Nat.le_of_ble_eq_true rfl⟩, mm_tbk mm_t7 217 rfl rfl, mm_tbk mm_t7 218 rfl rfl, TX12, 77, rfl⟩
set_option maxRecDepth 20000 in
theorem cv_X12_cost : mm_cv Y_X12_cost 12 2 := ⟨⟨mm_tbk mm_t1 14 rfl rfl, mm_tbk mm_t7 223 rfl rfl, ⟨by decide +kernel, by decide +kernel, by decide +kernel⟩, Nat.le_of_ble_eq_true rfl⟩, mm_tbk mm_t7 221 rfl rfl, mm_tbk mm_t7 222 rfl rfl, TX12, 77, rfl⟩
set_option maxRecDepth 20000 in
theorem cv_X12_isPaid : mm_cv Y_X12_isPaid 12 2 := ⟨⟨mm_tbk mm_t1 14 rfl rfl, mm_tbk mm_t7 231 rfl rfl, ⟨by decide +kernel, by decide +kernel, by decide +kernel⟩, Nat.le_of_ble_eq_true rfl⟩, mm_tbk mm_t7 230 rfl rfl, mm_tbk mm_t0 75 rfl rfl, TX12, 77, rfl⟩
set_option maxRecDepth 20000 in
theorem cv_X12_most : mm_cv Y_X12_most 12 1 := ⟨⟨mm_tbk mm_t1 14 rfl rfl, mm_tbk mm_t7 227 rfl rfl, ⟨by decide +kernel, by decide +kernel, by decide +kernel⟩, Nat.le_of_ble_eq_true rfl⟩, mm_tbk mm_t7 225 rfl rfl, mm_tbk mm_t7 226 rfl rfl, TX12, 77, rfl⟩
set_option maxRecDepth 20000 in
theorem cv_X12_count : mm_cv Y_X12_count 12 1 := ⟨⟨mm_tbk mm_t1 14 rfl rfl, mm_tbk mm_t7 235 rfl rfl, ⟨by decide +kernel, by decide +kernel, by decide +kernel⟩, Nat.le_of_ble_eq_true rfl⟩, mm_tbk mm_t7 233 rfl rfl, mm_tbk mm_t7 234 rfl rfl, TX12, 77, rfl⟩
set_option maxRecDepth 20000 in
theorem cv_X8_readDeeper : mm_cv Y_X8_readDeeper 8 2 := ⟨⟨mm_tbk mm_t1 9 rfl rfl, mm_tbk mm_t3 158 rfl rfl, ⟨by decide +kernel, by decide +kernel, by decide +kernel⟩, Nat.le_of_ble_eq_true rfl⟩, mm_tbk mm_t3 157 rfl rfl, mm_tbk mm_t0 8 rfl rfl, TX8, 6, rfl⟩
set_option maxRecDepth 20000 in
theorem cv_X8_peek : mm_cv Y_X8_peek 8 0 := ⟨⟨mm_tbk mm_t1 9 rfl rfl, mm_tbk mm_t3 154 rfl rfl, ⟨by decide +kernel, by decide +kernel, by decide +kernel⟩, Nat.le_of_ble_eq_true rfl⟩, mm_tbk mm_t3 153 rfl rfl, mm_tbk mm_t0 7 rfl rfl, TX8, 6, rfl⟩
set_option maxRecDepth 20000 in
theorem cv_X8_fail : mm_cv Y_X8_fail 8 0 := ⟨⟨mm_tbk mm_t1 9 rfl rfl, mm_tbk mm_t3 162 rfl rfl, ⟨by decide +kernel, by decide +kernel, by decide +kernel⟩, Nat.le_of_ble_eq_true rfl⟩, mm_tbk mm_t3 161 rfl rfl, mm_tbk mm_t0 9 rfl rfl, TX8, 6, rfl⟩
set_option maxRecDepth 20000 in
theorem cv_X8_put : mm_cv Y_X8_put 8 1 := ⟨⟨mm_tbk mm_t1 9 rfl rfl, mm_tbk mm_t3 166 rfl rfl, ⟨by decide +kernel, by decide +kernel, by decide +kernel⟩, Nat.le_of_ble_eq_true rfl⟩, mm_tbk mm_t3 165 rfl rfl, mm_tbk mm_t0 10 rfl rfl, TX8, 6, rfl⟩
set_option maxRecDepth 20000 in
theorem cv_X8_readPart : mm_cv Y_X8_readPart 8 1 := ⟨⟨mm_tbk mm_t1 9 rfl rfl, mm_tbk mm_t3 150 rfl rfl, ⟨by decide +kernel, by decide +kernel, by decide +kernel⟩, Nat.le_of_ble_eq_true rfl⟩, mm_tbk mm_t3 149 rfl rfl, mm_tbk mm_t0 6 rfl rfl, TX8, 6, rfl⟩
set_option maxRecDepth 20000 in
theorem cv_X8_readSum : mm_cv Y_X8_readSum 8 0 := ⟨⟨mm_tbk mm_t1 9 rfl rfl, mm_tbk mm_t3 170 rfl rfl, ⟨by decide +kernel, by decide +kernel, by decide +kernel⟩, Nat.le_of_ble_eq_true rfl⟩, mm_tbk mm_t3 169 rfl rfl, mm_tbk mm_t0 11 rfl rfl, TX8, 6, rfl⟩
set_option maxRecDepth 20000 in
theorem cv_X8_readUnit : mm_cv Y_X8_readUnit 8 0 := ⟨⟨mm_tbk mm_t1 9 rfl rfl, mm_tbk mm_t3 174 rfl rfl, ⟨by decide +kernel, by decide +kernel, by decide +kernel⟩, Nat.le_of_ble_eq_true rfl⟩, mm_tbk mm_t3 173 rfl rfl, mm_tbk mm_t0 12 rfl rfl, TX8, 6, rfl⟩
set_option maxRecDepth 20000 in
theorem cs_X8_isDigit : mm_cs Y_X8_isDigit 1 := ⟨⟨mm_tbk mm_t1 9 rfl rfl, mm_tbk mm_t3 180 rfl rfl, ⟨by decide +kernel, by decide +kernel, by decide +kernel⟩, Nat.le_of_ble_eq_true rfl⟩, mm_tbk mm_t3 179 rfl rfl⟩
set_option maxRecDepth 20000 in
theorem cs_X11_isFact : mm_cs Y_X11_isFact 1 := ⟨⟨mm_tbk mm_t1 1 rfl rfl, mm_tbk mm_t3 177 rfl rfl, ⟨by decide +kernel, by decide +kernel, by decide +kernel⟩, Nat.le_of_ble_eq_true rfl⟩, mm_tbk mm_t3 176 rfl rfl⟩
set_option maxRecDepth 20000 in
theorem cv_X8_readTerm : mm_cv Y_X8_readTerm 8 1 := ⟨⟨mm_tbk mm_t1 9 rfl rfl, mm_tbk mm_t3 146 rfl rfl, ⟨by decide +kernel, by decide +kernel, by decide +kernel⟩, Nat.le_of_ble_eq_true rfl⟩, mm_tbk mm_t3 145 rfl rfl, mm_tbk mm_t0 5 rfl rfl, TX8, 6, rfl⟩
set_option maxRecDepth 20000 in
theorem cv_X8_readChoice : mm_cv Y_X8_readChoice 8 1 := ⟨⟨mm_tbk mm_t1 9 rfl rfl, mm_tbk mm_t3 142 rfl rfl, ⟨by decide +kernel, by decide +kernel, by decide +kernel⟩, Nat.le_of_ble_eq_true rfl⟩, mm_tbk mm_t3 141 rfl rfl, mm_tbk mm_t0 4 rfl rfl, TX8, 6, rfl⟩
set_option maxRecDepth 20000 in
theorem cv_X8_translate : mm_cv Y_X8_translate 8 0 := ⟨⟨mm_tbk mm_t1 9 rfl rfl, mm_tbk mm_t3 138 rfl rfl, ⟨by decide +kernel, by decide +kernel, by decide +kernel⟩, Nat.le_of_ble_eq_true rfl⟩, mm_tbk mm_t3 136 rfl rfl, mm_tbk mm_t3 137 rfl rfl, TX8, 6, rfl⟩
set_option maxRecDepth 20000 in
theorem cv_X11_days : mm_cv Y_X11_days 11 1 := ⟨⟨mm_tbk mm_t1 1 rfl rfl, mm_tbk mm_t2 221 rfl rfl, ⟨by decide +kernel, by decide +kernel, by decide +kernel⟩, Nat.le_of_ble_eq_true rfl⟩, mm_tbk mm_t2 219 rfl rfl, mm_tbk mm_t2 220 rfl rfl, TX11, 18, rfl⟩
set_option maxRecDepth 20000 in
theorem cv_X11_refuse : mm_cv Y_X11_refuse 11 1 := ⟨⟨mm_tbk mm_t1 1 rfl rfl, mm_tbk mm_t2 225 rfl rfl, ⟨by decide +kernel, by decide +kernel, by decide +kernel⟩, Nat.le_of_ble_eq_true rfl⟩, mm_tbk mm_t2 224 rfl rfl, mm_tbk mm_t0 0 rfl rfl, TX11, 18, rfl⟩
set_option maxRecDepth 20000 in
theorem cv_X11_shop : mm_cv Y_X11_shop 11 4 := ⟨⟨mm_tbk mm_t1 1 rfl rfl, mm_tbk mm_t2 229 rfl rfl, ⟨by decide +kernel, by decide +kernel, by decide +kernel⟩, Nat.le_of_ble_eq_true rfl⟩, mm_tbk mm_t2 227 rfl rfl, mm_tbk mm_t2 228 rfl rfl, TX11, 18, rfl⟩
set_option maxRecDepth 20000 in
theorem cs_X11_isKind : mm_cs Y_X11_isKind 1 := ⟨⟨mm_tbk mm_t1 1 rfl rfl, mm_tbk mm_t2 232 rfl rfl, ⟨by decide +kernel, by decide +kernel, by decide +kernel⟩, Nat.le_of_ble_eq_true rfl⟩, mm_tbk mm_t2 231 rfl rfl⟩
set_option maxRecDepth 20000 in
theorem cs_X11_isWard : mm_cs Y_X11_isWard 1 := ⟨⟨mm_tbk mm_t1 1 rfl rfl, mm_tbk mm_t2 235 rfl rfl, ⟨by decide +kernel, by decide +kernel, by decide +kernel⟩, Nat.le_of_ble_eq_true rfl⟩, mm_tbk mm_t2 234 rfl rfl⟩
set_option maxRecDepth 20000 in
theorem cv_X6_add : mm_cv Y_X6_add 6 5 := ⟨⟨mm_tbk mm_t1 3 rfl rfl, mm_tbk mm_t2 239 rfl rfl, ⟨by decide +kernel, by decide +kernel, by decide +kernel⟩, Nat.le_of_ble_eq_true rfl⟩, mm_tbk mm_t2 237 rfl rfl, mm_tbk mm_t2 238 rfl rfl, TX6, 9, rfl⟩
set_option maxRecDepth 20000 in
theorem cv_X6_addOwner : mm_cv Y_X6_addOwner 6 2 := ⟨⟨mm_tbk mm_t1 3 rfl rfl, mm_tbk mm_t3 3 rfl rfl, ⟨by decide +kernel, by decide +kernel, by decide +kernel⟩, Nat.le_of_ble_eq_true rfl⟩, mm_tbk mm_t3 1 rfl rfl, mm_tbk mm_t3 2 rfl rfl, TX6, 9, rfl⟩
set_option maxRecDepth 20000 in
theorem cv_X6_has : mm_cv Y_X6_has 6 1 := ⟨⟨mm_tbk mm_t1 3 rfl rfl, mm_tbk mm_t3 7 rfl rfl, ⟨by decide +kernel, by decide +kernel, by decide +kernel⟩, Nat.le_of_ble_eq_true rfl⟩, mm_tbk mm_t3 5 rfl rfl, mm_tbk mm_t3 6 rfl rfl, TX6, 9, rfl⟩
set_option maxRecDepth 20000 in
theorem cv_X11_weight : mm_cv Y_X11_weight 11 2 := ⟨⟨mm_tbk mm_t1 1 rfl rfl, mm_tbk mm_t3 11 rfl rfl, ⟨by decide +kernel, by decide +kernel, by decide +kernel⟩, Nat.le_of_ble_eq_true rfl⟩, mm_tbk mm_t3 9 rfl rfl, mm_tbk mm_t3 10 rfl rfl, TX11, 18, rfl⟩
set_option maxRecDepth 20000 in
theorem cs_X11_outside : mm_cs Y_X11_outside 3 := ⟨⟨mm_tbk mm_t1 1 rfl rfl, mm_tbk mm_t3 15 rfl rfl, ⟨by decide +kernel, by decide +kernel, by decide +kernel⟩, Nat.le_of_ble_eq_true rfl⟩, mm_tbk mm_t3 14 rfl rfl⟩
set_option maxRecDepth 20000 in
theorem cv_X11_open : mm_cv Y_X11_open 11 2 := ⟨⟨mm_tbk mm_t1 1 rfl rfl, mm_tbk mm_t3 19 rfl rfl, ⟨by decide +kernel, by decide +kernel, by decide +kernel⟩, Nat.le_of_ble_eq_true rfl⟩, mm_tbk mm_t3 17 rfl rfl, mm_tbk mm_t3 18 rfl rfl, TX11, 18, rfl⟩
set_option maxRecDepth 20000 in
theorem cv_X11_sell : mm_cv Y_X11_sell 11 1 := ⟨⟨mm_tbk mm_t1 1 rfl rfl, mm_tbk mm_t3 23 rfl rfl, ⟨by decide +kernel, by decide +kernel, by decide +kernel⟩, Nat.le_of_ble_eq_true rfl⟩, mm_tbk mm_t3 21 rfl rfl, mm_tbk mm_t3 22 rfl rfl, TX11, 18, rfl⟩
set_option maxRecDepth 20000 in
theorem cv_X6_ownedSince : mm_cv Y_X6_ownedSince 6 1 := ⟨⟨mm_tbk mm_t1 3 rfl rfl, mm_tbk mm_t3 27 rfl rfl, ⟨by decide +kernel, by decide +kernel, by decide +kernel⟩, Nat.le_of_ble_eq_true rfl⟩, mm_tbk mm_t3 25 rfl rfl, mm_tbk mm_t3 26 rfl rfl, TX6, 9, rfl⟩
set_option maxRecDepth 20000 in
theorem cv_X11_child : mm_cv Y_X11_child 11 2 := ⟨⟨mm_tbk mm_t1 1 rfl rfl, mm_tbk mm_t3 32 rfl rfl, ⟨by decide +kernel, by decide +kernel, by decide +kernel⟩, Nat.le_of_ble_eq_true rfl⟩, mm_tbk mm_t3 30 rfl rfl, mm_tbk mm_t3 31 rfl rfl, TX11, 18, rfl⟩
set_option maxRecDepth 20000 in
theorem cv_X0_has : mm_cv Y_X0_has 0 1 := ⟨⟨mm_tbk mm_t1 4 rfl rfl, mm_tbk mm_t3 36 rfl rfl, ⟨by decide +kernel, by decide +kernel, by decide +kernel⟩, Nat.le_of_ble_eq_true rfl⟩, mm_tbk mm_t3 34 rfl rfl, mm_tbk mm_t3 35 rfl rfl, TX0, 5, rfl⟩
set_option maxRecDepth 20000 in
theorem cv_X0_tell : mm_cv Y_X0_tell 0 2 := ⟨⟨mm_tbk mm_t1 4 rfl rfl, mm_tbk mm_t3 40 rfl rfl, ⟨by decide +kernel, by decide +kernel, by decide +kernel⟩, Nat.le_of_ble_eq_true rfl⟩, mm_tbk mm_t3 38 rfl rfl, mm_tbk mm_t3 39 rfl rfl, TX0, 5, rfl⟩
set_option maxRecDepth 20000 in
theorem cv_X11_guess : mm_cv Y_X11_guess 11 2 := ⟨⟨mm_tbk mm_t1 1 rfl rfl, mm_tbk mm_t3 45 rfl rfl, ⟨by decide +kernel, by decide +kernel, by decide +kernel⟩, Nat.le_of_ble_eq_true rfl⟩, mm_tbk mm_t3 43 rfl rfl, mm_tbk mm_t3 44 rfl rfl, TX11, 18, rfl⟩
set_option maxRecDepth 20000 in
theorem cv_X0_addGuess : mm_cv Y_X0_addGuess 0 2 := ⟨⟨mm_tbk mm_t1 4 rfl rfl, mm_tbk mm_t3 49 rfl rfl, ⟨by decide +kernel, by decide +kernel, by decide +kernel⟩, Nat.le_of_ble_eq_true rfl⟩, mm_tbk mm_t3 47 rfl rfl, mm_tbk mm_t3 48 rfl rfl, TX0, 5, rfl⟩
set_option maxRecDepth 20000 in
theorem cv_X11_childOf : mm_cv Y_X11_childOf 11 2 := ⟨⟨mm_tbk mm_t1 1 rfl rfl, mm_tbk mm_t3 53 rfl rfl, ⟨by decide +kernel, by decide +kernel, by decide +kernel⟩, Nat.le_of_ble_eq_true rfl⟩, mm_tbk mm_t3 51 rfl rfl, mm_tbk mm_t3 52 rfl rfl, TX11, 18, rfl⟩
set_option maxRecDepth 20000 in
theorem cv_X0_looks : mm_cv Y_X0_looks 0 2 := ⟨⟨mm_tbk mm_t1 4 rfl rfl, mm_tbk mm_t3 61 rfl rfl, ⟨by decide +kernel, by decide +kernel, by decide +kernel⟩, Nat.le_of_ble_eq_true rfl⟩, mm_tbk mm_t3 59 rfl rfl, mm_tbk mm_t3 60 rfl rfl, TX0, 5, rfl⟩
set_option maxRecDepth 20000 in
theorem cv_X0_age : mm_cv Y_X0_age 0 2 := ⟨⟨mm_tbk mm_t1 4 rfl rfl, mm_tbk mm_t3 57 rfl rfl, ⟨by decide +kernel, by decide +kernel, by decide +kernel⟩, Nat.le_of_ble_eq_true rfl⟩, mm_tbk mm_t3 55 rfl rfl, mm_tbk mm_t3 56 rfl rfl, TX0, 5, rfl⟩
set_option maxRecDepth 20000 in
theorem cv_X11_known : mm_cv Y_X11_known 11 3 := ⟨⟨mm_tbk mm_t1 1 rfl rfl, mm_tbk mm_t3 66 rfl rfl, ⟨by decide +kernel, by decide +kernel, by decide +kernel⟩, Nat.le_of_ble_eq_true rfl⟩, mm_tbk mm_t3 64 rfl rfl, mm_tbk mm_t3 65 rfl rfl, TX11, 18, rfl⟩
set_option maxRecDepth 20000 in
theorem cv_X0_setKnown : mm_cv Y_X0_setKnown 0 3 := ⟨⟨mm_tbk mm_t1 4 rfl rfl, mm_tbk mm_t3 70 rfl rfl, ⟨by decide +kernel, by decide +kernel, by decide +kernel⟩, Nat.le_of_ble_eq_true rfl⟩, mm_tbk mm_t3 68 rfl rfl, mm_tbk mm_t3 69 rfl rfl, TX0, 5, rfl⟩
set_option maxRecDepth 20000 in
theorem cv_X11_draw : mm_cv Y_X11_draw 11 2 := ⟨⟨mm_tbk mm_t1 1 rfl rfl, mm_tbk mm_t3 74 rfl rfl, ⟨by decide +kernel, by decide +kernel, by decide +kernel⟩, Nat.le_of_ble_eq_true rfl⟩, mm_tbk mm_t3 72 rfl rfl, mm_tbk mm_t3 73 rfl rfl, TX11, 18, rfl⟩
set_option maxRecDepth 20000 in
theorem cv_X6_openOnes : mm_cv Y_X6_openOnes 6 0 := ⟨⟨mm_tbk mm_t1 3 rfl rfl, mm_tbk mm_t3 78 rfl rfl, ⟨by decide +kernel, by decide +kernel, by decide +kernel⟩, Nat.le_of_ble_eq_true rfl⟩, mm_tbk mm_t3 76 rfl rfl, mm_tbk mm_t3 77 rfl rfl, TX6, 9, rfl⟩
set_option maxRecDepth 20000 in
theorem cv_X11_takeLettersAway : mm_cv Y_X11_takeLettersAway 11 0 := ⟨⟨mm_tbk mm_t1 1 rfl rfl, mm_tbk mm_t3 82 rfl rfl, ⟨by decide +kernel, by decide +kernel, by decide +kernel⟩, Nat.le_of_ble_eq_true rfl⟩, mm_tbk mm_t3 81 rfl rfl, mm_tbk mm_t0 1 rfl rfl, TX11, 18, rfl⟩
set_option maxRecDepth 20000 in
theorem cv_X2_reckon : mm_cv Y_X2_reckon 2 2 := ⟨⟨mm_tbk mm_t1 7 rfl rfl, mm_tbk mm_t3 86 rfl rfl, ⟨by decide +kernel, by decide +kernel, by decide +kernel⟩, Nat.le_of_ble_eq_true rfl⟩, mm_tbk mm_t3 84 rfl rfl, mm_tbk mm_t3 85 rfl rfl, TX2, 7, rfl⟩
set_option maxRecDepth 20000 in
theorem cv_X2_makeSure : mm_cv Y_X2_makeSure 2 0 := ⟨⟨mm_tbk mm_t1 7 rfl rfl, mm_tbk mm_t3 91 rfl rfl, ⟨by decide +kernel, by decide +kernel, by decide +kernel⟩, Nat.le_of_ble_eq_true rfl⟩, mm_tbk mm_t3 90 rfl rfl, mm_tbk mm_t0 2 rfl rfl, TX2, 7, rfl⟩
set_option maxRecDepth 20000 in
theorem cv_X2_isOther : mm_cv Y_X2_isOther 2 1 := ⟨⟨mm_tbk mm_t1 7 rfl rfl, mm_tbk mm_t3 95 rfl rfl, ⟨by decide +kernel, by decide +kernel, by decide +kernel⟩, Nat.le_of_ble_eq_true rfl⟩, mm_tbk mm_t3 94 rfl rfl, mm_tbk mm_t0 3 rfl rfl, TX2, 7, rfl⟩
set_option maxRecDepth 20000 in
theorem cv_X2_take : mm_cv Y_X2_take 2 1 := ⟨⟨mm_tbk mm_t1 7 rfl rfl, mm_tbk mm_t3 99 rfl rfl, ⟨by decide +kernel, by decide +kernel, by decide +kernel⟩, Nat.le_of_ble_eq_true rfl⟩, mm_tbk mm_t3 97 rfl rfl, mm_tbk mm_t3 98 rfl rfl, TX2, 7, rfl⟩
set_option maxRecDepth 20000 in
theorem cv_X11_drawn : mm_cv Y_X11_drawn 11 2 := ⟨⟨mm_tbk mm_t1 1 rfl rfl, mm_tbk mm_t3 103 rfl rfl, ⟨by decide +kernel, by decide +kernel, by decide +kernel⟩, Nat.le_of_ble_eq_true rfl⟩, mm_tbk mm_t3 101 rfl rfl, mm_tbk mm_t3 102 rfl rfl, TX11, 18, rfl⟩
set_option maxRecDepth 20000 in
theorem cv_X2_partsAbove : mm_cv Y_X2_partsAbove 2 1 := ⟨⟨mm_tbk mm_t1 7 rfl rfl, mm_tbk mm_t3 107 rfl rfl, ⟨by decide +kernel, by decide +kernel, by decide +kernel⟩, Nat.le_of_ble_eq_true rfl⟩, mm_tbk mm_t3 105 rfl rfl, mm_tbk mm_t3 106 rfl rfl, TX2, 7, rfl⟩
set_option maxRecDepth 20000 in
theorem cv_X2_partsBelow : mm_cv Y_X2_partsBelow 2 1 := ⟨⟨mm_tbk mm_t1 7 rfl rfl, mm_tbk mm_t3 111 rfl rfl, ⟨by decide +kernel, by decide +kernel, by decide +kernel⟩, Nat.le_of_ble_eq_true rfl⟩, mm_tbk mm_t3 109 rfl rfl, mm_tbk mm_t3 110 rfl rfl, TX2, 7, rfl⟩
set_option maxRecDepth 20000 in
theorem cv_X3_become : mm_cv Y_X3_become 3 2 := ⟨⟨mm_tbk mm_t1 8 rfl rfl, mm_tbk mm_t3 115 rfl rfl, ⟨by decide +kernel, by decide +kernel, by decide +kernel⟩, Nat.le_of_ble_eq_true rfl⟩, mm_tbk mm_t3 113 rfl rfl, mm_tbk mm_t3 114 rfl rfl, TX3, 2, rfl⟩
set_option maxRecDepth 20000 in
theorem cs_X3_commonDivisor : mm_cs Y_X3_commonDivisor 2 := ⟨⟨mm_tbk mm_t1 8 rfl rfl, mm_tbk mm_t3 118 rfl rfl, ⟨by decide +kernel, by decide +kernel, by decide +kernel⟩, Nat.le_of_ble_eq_true rfl⟩, mm_tbk mm_t3 117 rfl rfl⟩
set_option maxRecDepth 20000 in
theorem cv_X11_feed : mm_cv Y_X11_feed 11 2 := ⟨⟨mm_tbk mm_t1 1 rfl rfl, mm_tbk mm_t3 122 rfl rfl, ⟨by decide +kernel, by decide +kernel, by decide +kernel⟩, Nat.le_of_ble_eq_true rfl⟩, mm_tbk mm_t3 120 rfl rfl, mm_tbk mm_t3 121 rfl rfl, TX11, 18, rfl⟩
set_option maxRecDepth 20000 in
theorem cv_X8_append : mm_cv Y_X8_append 8 2 := ⟨⟨mm_tbk mm_t1 9 rfl rfl, mm_tbk mm_t3 126 rfl rfl, ⟨by decide +kernel, by decide +kernel, by decide +kernel⟩, Nat.le_of_ble_eq_true rfl⟩, mm_tbk mm_t3 124 rfl rfl, mm_tbk mm_t3 125 rfl rfl, TX8, 6, rfl⟩
set_option maxRecDepth 20000 in
theorem cv_X11_rule : mm_cv Y_X11_rule 11 2 := ⟨⟨mm_tbk mm_t1 1 rfl rfl, mm_tbk mm_t3 131 rfl rfl, ⟨by decide +kernel, by decide +kernel, by decide +kernel⟩, Nat.le_of_ble_eq_true rfl⟩, mm_tbk mm_t3 129 rfl rfl, mm_tbk mm_t3 130 rfl rfl, TX11, 18, rfl⟩
set_option maxRecDepth 20000 in
theorem cs_X11_isUse : mm_cs Y_X11_isUse 1 := ⟨⟨mm_tbk mm_t1 1 rfl rfl, mm_tbk mm_t3 134 rfl rfl, ⟨by decide +kernel, by decide +kernel, by decide +kernel⟩, Nat.le_of_ble_eq_true rfl⟩, mm_tbk mm_t3 133 rfl rfl⟩
set_option maxRecDepth 20000 in
theorem cv_X5_add : mm_cv Y_X5_add 5 4 := ⟨⟨mm_tbk mm_t1 6 rfl rfl, mm_tbk mm_t3 184 rfl rfl, ⟨by decide +kernel, by decide +kernel, by decide +kernel⟩, Nat.le_of_ble_eq_true rfl⟩, mm_tbk mm_t3 182 rfl rfl, mm_tbk mm_t3 183 rfl rfl, TX5, 6, rfl⟩
set_option maxRecDepth 20000 in
theorem cv_X11_force : mm_cv Y_X11_force 11 2 := ⟨⟨mm_tbk mm_t1 1 rfl rfl, mm_tbk mm_t3 188 rfl rfl, ⟨by decide +kernel, by decide +kernel, by decide +kernel⟩, Nat.le_of_ble_eq_true rfl⟩, mm_tbk mm_t3 186 rfl rfl, mm_tbk mm_t3 187 rfl rfl, TX11, 18, rfl⟩
set_option maxRecDepth 20000 in
theorem cv_X5_inForce : mm_cv Y_X5_inForce 5 2 := ⟨⟨mm_tbk mm_t1 6 rfl rfl, mm_tbk mm_t3 192 rfl rfl, ⟨by decide +kernel, by decide +kernel, by decide +kernel⟩, Nat.le_of_ble_eq_true rfl⟩, mm_tbk mm_t3 190 rfl rfl, mm_tbk mm_t3 191 rfl rfl, TX5, 6, rfl⟩
set_option maxRecDepth 20000 in
theorem cv_X11_test : mm_cv Y_X11_test 11 6 := ⟨⟨mm_tbk mm_t1 1 rfl rfl, mm_tbk mm_t3 196 rfl rfl, ⟨by decide +kernel, by decide +kernel, by decide +kernel⟩, Nat.le_of_ble_eq_true rfl⟩, mm_tbk mm_t3 194 rfl rfl, mm_tbk mm_t3 195 rfl rfl, TX11, 18, rfl⟩
set_option maxRecDepth 20000 in
theorem cv_X11_mayBeTestedOn : mm_cv Y_X11_mayBeTestedOn 11 2 := ⟨⟨mm_tbk mm_t1 1 rfl rfl, mm_tbk mm_t3 200 rfl rfl, ⟨by decide +kernel, by decide +kernel, by decide +kernel⟩, Nat.le_of_ble_eq_true rfl⟩, mm_tbk mm_t3 199 rfl rfl, mm_tbk mm_t0 13 rfl rfl, TX11, 18, rfl⟩
set_option maxRecDepth 20000 in
theorem cv_X6_ownerOn : mm_cv Y_X6_ownerOn 6 2 := ⟨⟨mm_tbk mm_t1 3 rfl rfl, mm_tbk mm_t3 204 rfl rfl, ⟨by decide +kernel, by decide +kernel, by decide +kernel⟩, Nat.le_of_ble_eq_true rfl⟩, mm_tbk mm_t3 202 rfl rfl, mm_tbk mm_t3 203 rfl rfl, TX6, 9, rfl⟩
set_option maxRecDepth 20000 in
theorem cv_X9_latestDay : mm_cv Y_X9_latestDay 9 0 := ⟨⟨mm_tbk mm_t1 5 rfl rfl, mm_tbk mm_t3 208 rfl rfl, ⟨by decide +kernel, by decide +kernel, by decide +kernel⟩, Nat.le_of_ble_eq_true rfl⟩, mm_tbk mm_t3 206 rfl rfl, mm_tbk mm_t3 207 rfl rfl, TX9, 8, rfl⟩
set_option maxRecDepth 20000 in
theorem cv_X9_add : mm_cv Y_X9_add 9 6 := ⟨⟨mm_tbk mm_t1 5 rfl rfl, mm_tbk mm_t3 212 rfl rfl, ⟨by decide +kernel, by decide +kernel, by decide +kernel⟩, Nat.le_of_ble_eq_true rfl⟩, mm_tbk mm_t3 210 rfl rfl, mm_tbk mm_t3 211 rfl rfl, TX9, 8, rfl⟩
set_option maxRecDepth 20000 in
theorem cv_X11_appeal : mm_cv Y_X11_appeal 11 1 := ⟨⟨mm_tbk mm_t1 1 rfl rfl, mm_tbk mm_t3 216 rfl rfl, ⟨by decide +kernel, by decide +kernel, by decide +kernel⟩, Nat.le_of_ble_eq_true rfl⟩, mm_tbk mm_t3 214 rfl rfl, mm_tbk mm_t3 215 rfl rfl, TX11, 18, rfl⟩
set_option maxRecDepth 20000 in
theorem cv_X9_has : mm_cv Y_X9_has 9 1 := ⟨⟨mm_tbk mm_t1 5 rfl rfl, mm_tbk mm_t3 220 rfl rfl, ⟨by decide +kernel, by decide +kernel, by decide +kernel⟩, Nat.le_of_ble_eq_true rfl⟩, mm_tbk mm_t3 218 rfl rfl, mm_tbk mm_t3 219 rfl rfl, TX9, 8, rfl⟩
set_option maxRecDepth 20000 in
theorem cv_X9_isVoided : mm_cv Y_X9_isVoided 9 1 := ⟨⟨mm_tbk mm_t1 5 rfl rfl, mm_tbk mm_t3 224 rfl rfl, ⟨by decide +kernel, by decide +kernel, by decide +kernel⟩, Nat.le_of_ble_eq_true rfl⟩, mm_tbk mm_t3 222 rfl rfl, mm_tbk mm_t3 223 rfl rfl, TX9, 8, rfl⟩
set_option maxRecDepth 20000 in
theorem cv_X11_testOf : mm_cv Y_X11_testOf 11 3 := ⟨⟨mm_tbk mm_t1 1 rfl rfl, mm_tbk mm_t3 229 rfl rfl, ⟨by decide +kernel, by decide +kernel, by decide +kernel⟩, Nat.le_of_ble_eq_true rfl⟩, mm_tbk mm_t3 227 rfl rfl, mm_tbk mm_t3 228 rfl rfl, TX11, 18, rfl⟩
set_option maxRecDepth 20000 in
theorem cv_X10_weigh : mm_cv Y_X10_weigh 10 2 := ⟨⟨mm_tbk mm_t1 2 rfl rfl, mm_tbk mm_t3 237 rfl rfl, ⟨by decide +kernel, by decide +kernel, by decide +kernel⟩, Nat.le_of_ble_eq_true rfl⟩, mm_tbk mm_t3 235 rfl rfl, mm_tbk mm_t3 236 rfl rfl, TX10, 13, rfl⟩
set_option maxRecDepth 20000 in
theorem cv_X9_countsAsOf : mm_cv Y_X9_countsAsOf 9 2 := ⟨⟨mm_tbk mm_t1 5 rfl rfl, mm_tbk mm_t3 233 rfl rfl, ⟨by decide +kernel, by decide +kernel, by decide +kernel⟩, Nat.le_of_ble_eq_true rfl⟩, mm_tbk mm_t3 231 rfl rfl, mm_tbk mm_t3 232 rfl rfl, TX9, 8, rfl⟩
set_option maxRecDepth 20000 in
theorem cv_X10_gather : mm_cv Y_X10_gather 10 1 := ⟨⟨mm_tbk mm_t1 2 rfl rfl, mm_tbk mm_t4 7 rfl rfl, ⟨by decide +kernel, by decide +kernel, by decide +kernel⟩, Nat.le_of_ble_eq_true rfl⟩, mm_tbk mm_t4 5 rfl rfl, mm_tbk mm_t4 6 rfl rfl, TX10, 13, rfl⟩
set_option maxRecDepth 20000 in
theorem cv_X0_isKnown : mm_cv Y_X0_isKnown 0 2 := ⟨⟨mm_tbk mm_t1 4 rfl rfl, mm_tbk mm_t4 25 rfl rfl, ⟨by decide +kernel, by decide +kernel, by decide +kernel⟩, Nat.le_of_ble_eq_true rfl⟩, mm_tbk mm_t4 23 rfl rfl, mm_tbk mm_t4 24 rfl rfl, TX0, 5, rfl⟩
set_option maxRecDepth 20000 in
theorem cv_X10_ownerOf : mm_cv Y_X10_ownerOf 10 1 := ⟨⟨mm_tbk mm_t1 2 rfl rfl, mm_tbk mm_t4 11 rfl rfl, ⟨by decide +kernel, by decide +kernel, by decide +kernel⟩, Nat.le_of_ble_eq_true rfl⟩, mm_tbk mm_t4 10 rfl rfl, mm_tbk mm_t0 15 rfl rfl, TX10, 13, rfl⟩
set_option maxRecDepth 20000 in
theorem cv_X10_visitOf : mm_cv Y_X10_visitOf 10 1 := ⟨⟨mm_tbk mm_t1 2 rfl rfl, mm_tbk mm_t4 17 rfl rfl, ⟨by decide +kernel, by decide +kernel, by decide +kernel⟩, Nat.le_of_ble_eq_true rfl⟩, mm_tbk mm_t4 16 rfl rfl, mm_tbk mm_t0 16 rfl rfl, TX10, 13, rfl⟩
set_option maxRecDepth 20000 in
theorem cv_X10_settle : mm_cv Y_X10_settle 10 1 := ⟨⟨mm_tbk mm_t1 2 rfl rfl, mm_tbk mm_t4 29 rfl rfl, ⟨by decide +kernel, by decide +kernel, by decide +kernel⟩, Nat.le_of_ble_eq_true rfl⟩, mm_tbk mm_t4 28 rfl rfl, mm_tbk mm_t0 17 rfl rfl, TX10, 13, rfl⟩
set_option maxRecDepth 20000 in
theorem cv_X5_holds : mm_cv Y_X5_holds 5 3 := ⟨⟨mm_tbk mm_t1 6 rfl rfl, mm_tbk mm_t4 33 rfl rfl, ⟨by decide +kernel, by decide +kernel, by decide +kernel⟩, Nat.le_of_ble_eq_true rfl⟩, mm_tbk mm_t4 31 rfl rfl, mm_tbk mm_t4 32 rfl rfl, TX5, 6, rfl⟩
set_option maxRecDepth 20000 in
theorem cv_X5_value : mm_cv Y_X5_value 5 2 := ⟨⟨mm_tbk mm_t1 6 rfl rfl, mm_tbk mm_t4 38 rfl rfl, ⟨by decide +kernel, by decide +kernel, by decide +kernel⟩, Nat.le_of_ble_eq_true rfl⟩, mm_tbk mm_t4 37 rfl rfl, mm_tbk mm_t0 18 rfl rfl, TX5, 6, rfl⟩
set_option maxRecDepth 20000 in
theorem cs_X5_join : mm_cs Y_X5_join 3 := ⟨⟨mm_tbk mm_t1 6 rfl rfl, mm_tbk mm_t4 44 rfl rfl, ⟨by decide +kernel, by decide +kernel, by decide +kernel⟩, Nat.le_of_ble_eq_true rfl⟩, mm_tbk mm_t4 43 rfl rfl⟩
set_option maxRecDepth 20000 in
theorem cs_X5_unit : mm_cs Y_X5_unit 2 := ⟨⟨mm_tbk mm_t1 6 rfl rfl, mm_tbk mm_t4 41 rfl rfl, ⟨by decide +kernel, by decide +kernel, by decide +kernel⟩, Nat.le_of_ble_eq_true rfl⟩, mm_tbk mm_t4 40 rfl rfl⟩
set_option maxRecDepth 20000 in
theorem cv_X9_isSold : mm_cv Y_X9_isSold 9 1 := ⟨⟨mm_tbk mm_t1 5 rfl rfl, mm_tbk mm_t4 48 rfl rfl, ⟨by decide +kernel, by decide +kernel, by decide +kernel⟩, Nat.le_of_ble_eq_true rfl⟩, mm_tbk mm_t4 46 rfl rfl, mm_tbk mm_t4 47 rfl rfl, TX9, 8, rfl⟩
set_option maxRecDepth 20000 in
theorem cv_X10_forget : mm_cv Y_X10_forget 10 0 := ⟨⟨mm_tbk mm_t1 2 rfl rfl, mm_tbk mm_t4 1 rfl rfl, ⟨by decide +kernel, by decide +kernel, by decide +kernel⟩, Nat.le_of_ble_eq_true rfl⟩, mm_tbk mm_t4 0 rfl rfl, mm_tbk mm_t0 14 rfl rfl, TX10, 13, rfl⟩
set_option maxRecDepth 20000 in
theorem cs_J7_fill_53178 : mm_cs Y_J7_fill_53178 2 := ⟨⟨mm_tbk mm_t1 13 rfl rfl, mm_tbk mm_t2 162 rfl rfl, ⟨by decide +kernel, by decide +kernel, by decide +kernel⟩, Nat.le_of_ble_eq_true rfl⟩, mm_tbk mm_t2 161 rfl rfl⟩
set_option maxRecDepth 20000 in
theorem cv_X11_fact : mm_cv Y_X11_fact 11 3 := ⟨⟨mm_tbk mm_t1 1 rfl rfl, mm_tbk mm_t4 52 rfl rfl, ⟨by decide +kernel, by decide +kernel, by decide +kernel⟩, Nat.le_of_ble_eq_true rfl⟩, mm_tbk mm_t4 50 rfl rfl, mm_tbk mm_t4 51 rfl rfl, TX11, 18, rfl⟩
set_option maxRecDepth 20000 in
theorem cv_X11_step : mm_cv Y_X11_step 11 3 := ⟨⟨mm_tbk mm_t1 1 rfl rfl, mm_tbk mm_t4 58 rfl rfl, ⟨by decide +kernel, by decide +kernel, by decide +kernel⟩, Nat.le_of_ble_eq_true rfl⟩, mm_tbk mm_t4 56 rfl rfl, mm_tbk mm_t4 57 rfl rfl, TX11, 18, rfl⟩
set_option maxRecDepth 20000 in
theorem cv_X9_until : mm_cv Y_X9_until 9 1 := ⟨⟨mm_tbk mm_t1 5 rfl rfl, mm_tbk mm_t4 62 rfl rfl, ⟨by decide +kernel, by decide +kernel, by decide +kernel⟩, Nat.le_of_ble_eq_true rfl⟩, mm_tbk mm_t4 60 rfl rfl, mm_tbk mm_t4 61 rfl rfl, TX9, 8, rfl⟩
set_option maxRecDepth 20000 in
theorem cv_X10_stepOf : mm_cv Y_X10_stepOf 10 2 := ⟨⟨mm_tbk mm_t1 2 rfl rfl, mm_tbk mm_t4 66 rfl rfl, ⟨by decide +kernel, by decide +kernel, by decide +kernel⟩, Nat.le_of_ble_eq_true rfl⟩, mm_tbk mm_t4 64 rfl rfl, mm_tbk mm_t4 65 rfl rfl, TX10, 13, rfl⟩
set_option maxRecDepth 20000 in
theorem cv_X11_lost : mm_cv Y_X11_lost 11 0 := ⟨⟨mm_tbk mm_t1 1 rfl rfl, mm_tbk mm_t4 70 rfl rfl, ⟨by decide +kernel, by decide +kernel, by decide +kernel⟩, Nat.le_of_ble_eq_true rfl⟩, mm_tbk mm_t4 68 rfl rfl, mm_tbk mm_t4 69 rfl rfl, TX11, 18, rfl⟩
set_option maxRecDepth 20000 in
theorem cv_X11_leave : mm_cv Y_X11_leave 11 1 := ⟨⟨mm_tbk mm_t1 1 rfl rfl, mm_tbk mm_t4 74 rfl rfl, ⟨by decide +kernel, by decide +kernel, by decide +kernel⟩, Nat.le_of_ble_eq_true rfl⟩, mm_tbk mm_t4 72 rfl rfl, mm_tbk mm_t4 73 rfl rfl, TX11, 18, rfl⟩
set_option maxRecDepth 20000 in
theorem cv_X11_work : mm_cv Y_X11_work 11 3 := ⟨⟨mm_tbk mm_t1 1 rfl rfl, mm_tbk mm_t4 78 rfl rfl, ⟨by decide +kernel, by decide +kernel, by decide +kernel⟩, Nat.le_of_ble_eq_true rfl⟩, mm_tbk mm_t4 76 rfl rfl, mm_tbk mm_t4 77 rfl rfl, TX11, 18, rfl⟩
set_option maxRecDepth 20000 in
theorem cv_X11_planWork : mm_cv Y_X11_planWork 11 2 := ⟨⟨mm_tbk mm_t1 1 rfl rfl, mm_tbk mm_t4 86 rfl rfl, ⟨by decide +kernel, by decide +kernel, by decide +kernel⟩, Nat.le_of_ble_eq_true rfl⟩, mm_tbk mm_t4 85 rfl rfl, mm_tbk mm_t0 20 rfl rfl, TX11, 18, rfl⟩
set_option maxRecDepth 20000 in
theorem cv_X11_mayGo : mm_cv Y_X11_mayGo 11 2 := ⟨⟨mm_tbk mm_t1 1 rfl rfl, mm_tbk mm_t4 94 rfl rfl, ⟨by decide +kernel, by decide +kernel, by decide +kernel⟩, Nat.le_of_ble_eq_true rfl⟩, mm_tbk mm_t4 93 rfl rfl, mm_tbk mm_t0 21 rfl rfl, TX11, 18, rfl⟩
set_option maxRecDepth 20000 in
theorem cv_X9_anyOf : mm_cv Y_X9_anyOf 9 2 := ⟨⟨mm_tbk mm_t1 5 rfl rfl, mm_tbk mm_t4 99 rfl rfl, ⟨by decide +kernel, by decide +kernel, by decide +kernel⟩, Nat.le_of_ble_eq_true rfl⟩, mm_tbk mm_t4 97 rfl rfl, mm_tbk mm_t4 98 rfl rfl, TX9, 8, rfl⟩
set_option maxRecDepth 20000 in
theorem cv_X4_addStop : mm_cv Y_X4_addStop 4 5 := ⟨⟨mm_tbk mm_t1 10 rfl rfl, mm_tbk mm_t4 104 rfl rfl, ⟨by decide +kernel, by decide +kernel, by decide +kernel⟩, Nat.le_of_ble_eq_true rfl⟩, mm_tbk mm_t4 102 rfl rfl, mm_tbk mm_t4 103 rfl rfl, TX4, 12, rfl⟩
set_option maxRecDepth 20000 in
theorem cv_X4_plan : mm_cv Y_X4_plan 4 1 := ⟨⟨mm_tbk mm_t1 10 rfl rfl, mm_tbk mm_t4 108 rfl rfl, ⟨by decide +kernel, by decide +kernel, by decide +kernel⟩, Nat.le_of_ble_eq_true rfl⟩, mm_tbk mm_t4 106 rfl rfl, mm_tbk mm_t4 107 rfl rfl, TX4, 12, rfl⟩
set_option maxRecDepth 20000 in
theorem cv_X4_isAllowed : mm_cv Y_X4_isAllowed 4 1 := ⟨⟨mm_tbk mm_t1 10 rfl rfl, mm_tbk mm_t4 145 rfl rfl, ⟨by decide +kernel, by decide +kernel, by decide +kernel⟩, Nat.le_of_ble_eq_true rfl⟩, mm_tbk mm_t4 144 rfl rfl, mm_tbk mm_t0 27 rfl rfl, TX4, 12, rfl⟩
set_option maxRecDepth 20000 in
theorem cv_X4_bit : mm_cv Y_X4_bit 4 1 := ⟨⟨mm_tbk mm_t1 10 rfl rfl, mm_tbk mm_t4 121 rfl rfl, ⟨by decide +kernel, by decide +kernel, by decide +kernel⟩, Nat.le_of_ble_eq_true rfl⟩, mm_tbk mm_t4 120 rfl rfl, mm_tbk mm_t0 24 rfl rfl, TX4, 12, rfl⟩
set_option maxRecDepth 20000 in
theorem cv_X4_all : mm_cv Y_X4_all 4 0 := ⟨⟨mm_tbk mm_t1 10 rfl rfl, mm_tbk mm_t4 116 rfl rfl, ⟨by decide +kernel, by decide +kernel, by decide +kernel⟩, Nat.le_of_ble_eq_true rfl⟩, mm_tbk mm_t4 115 rfl rfl, mm_tbk mm_t0 23 rfl rfl, TX4, 12, rfl⟩
set_option maxRecDepth 20000 in
theorem cv_X4_offer : mm_cv Y_X4_offer 4 4 := ⟨⟨mm_tbk mm_t1 10 rfl rfl, mm_tbk mm_t4 152 rfl rfl, ⟨by decide +kernel, by decide +kernel, by decide +kernel⟩, Nat.le_of_ble_eq_true rfl⟩, mm_tbk mm_t4 151 rfl rfl, mm_tbk mm_t0 28 rfl rfl, TX4, 12, rfl⟩
set_option maxRecDepth 20000 in
theorem cv_X4_reckonTimes : mm_cv Y_X4_reckonTimes 4 0 := ⟨⟨mm_tbk mm_t1 10 rfl rfl, mm_tbk mm_t4 112 rfl rfl, ⟨by decide +kernel, by decide +kernel, by decide +kernel⟩, Nat.le_of_ble_eq_true rfl⟩, mm_tbk mm_t4 111 rfl rfl, mm_tbk mm_t0 22 rfl rfl, TX4, 12, rfl⟩
set_option maxRecDepth 20000 in
theorem cv_X4_shortestTo : mm_cv Y_X4_shortestTo 4 2 := ⟨⟨mm_tbk mm_t1 10 rfl rfl, mm_tbk mm_t4 125 rfl rfl, ⟨by decide +kernel, by decide +kernel, by decide +kernel⟩, Nat.le_of_ble_eq_true rfl⟩, mm_tbk mm_t4 124 rfl rfl, mm_tbk mm_t0 25 rfl rfl, TX4, 12, rfl⟩
set_option maxRecDepth 20000 in
theorem cv_X4_leg : mm_cv Y_X4_leg 4 2 := ⟨⟨mm_tbk mm_t1 10 rfl rfl, mm_tbk mm_t4 129 rfl rfl, ⟨by decide +kernel, by decide +kernel, by decide +kernel⟩, Nat.le_of_ble_eq_true rfl⟩, mm_tbk mm_t4 128 rfl rfl, mm_tbk mm_t0 26 rfl rfl, TX4, 12, rfl⟩
set_option maxRecDepth 20000 in
theorem cs_J6_bitCount_0f7a4 : mm_cs Y_J6_bitCount_0f7a4 1 := ⟨⟨mm_tbk mm_t1 21 rfl rfl, mm_tbk mm_t4 138 rfl rfl, ⟨by decide +kernel, by decide +kernel, by decide +kernel⟩, Nat.le_of_ble_eq_true rfl⟩, mm_tbk mm_t4 137 rfl rfl⟩
set_option maxRecDepth 20000 in
theorem cv_X4_clear : mm_cv Y_X4_clear 4 0 := ⟨⟨mm_tbk mm_t1 10 rfl rfl, mm_tbk mm_t4 90 rfl rfl, ⟨by decide +kernel, by decide +kernel, by decide +kernel⟩, Nat.le_of_ble_eq_true rfl⟩, mm_tbk mm_t4 88 rfl rfl, mm_tbk mm_t4 89 rfl rfl, TX4, 12, rfl⟩
set_option maxRecDepth 20000 in
theorem cv_X11_workRefusal : mm_cv Y_X11_workRefusal 11 2 := ⟨⟨mm_tbk mm_t1 1 rfl rfl, mm_tbk mm_t4 82 rfl rfl, ⟨by decide +kernel, by decide +kernel, by decide +kernel⟩, Nat.le_of_ble_eq_true rfl⟩, mm_tbk mm_t4 81 rfl rfl, mm_tbk mm_t0 19 rfl rfl, TX11, 18, rfl⟩
set_option maxRecDepth 20000 in
theorem cv_X11_workAt : mm_cv Y_X11_workAt 11 4 := ⟨⟨mm_tbk mm_t1 1 rfl rfl, mm_tbk mm_t4 156 rfl rfl, ⟨by decide +kernel, by decide +kernel, by decide +kernel⟩, Nat.le_of_ble_eq_true rfl⟩, mm_tbk mm_t4 154 rfl rfl, mm_tbk mm_t4 155 rfl rfl, TX11, 18, rfl⟩
set_option maxRecDepth 20000 in
theorem cv_X4_stopAt : mm_cv Y_X4_stopAt 4 2 := ⟨⟨mm_tbk mm_t1 10 rfl rfl, mm_tbk mm_t4 160 rfl rfl, ⟨by decide +kernel, by decide +kernel, by decide +kernel⟩, Nat.le_of_ble_eq_true rfl⟩, mm_tbk mm_t4 158 rfl rfl, mm_tbk mm_t4 159 rfl rfl, TX4, 12, rfl⟩
set_option maxRecDepth 20000 in
theorem cv_X4_nextStop : mm_cv Y_X4_nextStop 4 2 := ⟨⟨mm_tbk mm_t1 10 rfl rfl, mm_tbk mm_t4 164 rfl rfl, ⟨by decide +kernel, by decide +kernel, by decide +kernel⟩, Nat.le_of_ble_eq_true rfl⟩, mm_tbk mm_t4 163 rfl rfl, mm_tbk mm_t0 29 rfl rfl, TX4, 12, rfl⟩
set_option maxRecDepth 20000 in
theorem cv_X11_letters : mm_cv Y_X11_letters 11 1 := ⟨⟨mm_tbk mm_t1 1 rfl rfl, mm_tbk mm_t4 168 rfl rfl, ⟨by decide +kernel, by decide +kernel, by decide +kernel⟩, Nat.le_of_ble_eq_true rfl⟩, mm_tbk mm_t4 166 rfl rfl, mm_tbk mm_t4 167 rfl rfl, TX11, 18, rfl⟩
set_option maxRecDepth 20000 in
theorem cv_X11_giveLetters : mm_cv Y_X11_giveLetters 11 1 := ⟨⟨mm_tbk mm_t1 1 rfl rfl, mm_tbk mm_t4 173 rfl rfl, ⟨by decide +kernel, by decide +kernel, by decide +kernel⟩, Nat.le_of_ble_eq_true rfl⟩, mm_tbk mm_t4 172 rfl rfl, mm_tbk mm_t0 30 rfl rfl, TX11, 18, rfl⟩
set_option maxRecDepth 20000 in
theorem cv_X11_letter : mm_cv Y_X11_letter 11 1 := ⟨⟨mm_tbk mm_t1 1 rfl rfl, mm_tbk mm_t4 178 rfl rfl, ⟨by decide +kernel, by decide +kernel, by decide +kernel⟩, Nat.le_of_ble_eq_true rfl⟩, mm_tbk mm_t4 176 rfl rfl, mm_tbk mm_t4 177 rfl rfl, TX11, 18, rfl⟩
set_option maxRecDepth 20000 in
theorem cv_X11_helped : mm_cv Y_X11_helped 11 2 := ⟨⟨mm_tbk mm_t1 1 rfl rfl, mm_tbk mm_t4 182 rfl rfl, ⟨by decide +kernel, by decide +kernel, by decide +kernel⟩, Nat.le_of_ble_eq_true rfl⟩, mm_tbk mm_t4 180 rfl rfl, mm_tbk mm_t4 181 rfl rfl, TX11, 18, rfl⟩
set_option maxRecDepth 20000 in
theorem cv_X11_enter : mm_cv Y_X11_enter 11 3 := ⟨⟨mm_tbk mm_t1 1 rfl rfl, mm_tbk mm_t4 193 rfl rfl, ⟨by decide +kernel, by decide +kernel, by decide +kernel⟩, Nat.le_of_ble_eq_true rfl⟩, mm_tbk mm_t4 192 rfl rfl, mm_tbk mm_t0 31 rfl rfl, TX11, 18, rfl⟩
set_option maxRecDepth 20000 in
theorem cv_X10_firstGood : mm_cv Y_X10_firstGood 10 2 := ⟨⟨mm_tbk mm_t1 2 rfl rfl, mm_tbk mm_t4 197 rfl rfl, ⟨by decide +kernel, by decide +kernel, by decide +kernel⟩, Nat.le_of_ble_eq_true rfl⟩, mm_tbk mm_t4 195 rfl rfl, mm_tbk mm_t4 196 rfl rfl, TX10, 13, rfl⟩
set_option maxRecDepth 20000 in
theorem cv_X7_put : mm_cv Y_X7_put 7 2 := ⟨⟨mm_tbk mm_t1 11 rfl rfl, mm_tbk mm_t4 202 rfl rfl, ⟨by decide +kernel, by decide +kernel, by decide +kernel⟩, Nat.le_of_ble_eq_true rfl⟩, mm_tbk mm_t4 200 rfl rfl, mm_tbk mm_t4 201 rfl rfl, TX7, 5, rfl⟩
set_option maxRecDepth 20000 in
theorem cv_X7_tell : mm_cv Y_X7_tell 7 1 := ⟨⟨mm_tbk mm_t1 11 rfl rfl, mm_tbk mm_t4 206 rfl rfl, ⟨by decide +kernel, by decide +kernel, by decide +kernel⟩, Nat.le_of_ble_eq_true rfl⟩, mm_tbk mm_t4 204 rfl rfl, mm_tbk mm_t4 205 rfl rfl, TX7, 5, rfl⟩
set_option maxRecDepth 20000 in
theorem cv_X7_reckonChance : mm_cv Y_X7_reckonChance 7 0 := ⟨⟨mm_tbk mm_t1 11 rfl rfl, mm_tbk mm_t4 210 rfl rfl, ⟨by decide +kernel, by decide +kernel, by decide +kernel⟩, Nat.le_of_ble_eq_true rfl⟩, mm_tbk mm_t4 209 rfl rfl, mm_tbk mm_t0 32 rfl rfl, TX7, 5, rfl⟩
set_option maxRecDepth 20000 in
theorem cs_X7_waysToChoose : mm_cs Y_X7_waysToChoose 2 := ⟨⟨mm_tbk mm_t1 11 rfl rfl, mm_tbk mm_t4 213 rfl rfl, ⟨by decide +kernel, by decide +kernel, by decide +kernel⟩, Nat.le_of_ble_eq_true rfl⟩, mm_tbk mm_t4 212 rfl rfl⟩
set_option maxRecDepth 20000 in
theorem cs_X11_tableRefusal : mm_cs Y_X11_tableRefusal 2 := ⟨⟨mm_tbk mm_t1 1 rfl rfl, mm_tbk mm_t4 185 rfl rfl, ⟨by decide +kernel, by decide +kernel, by decide +kernel⟩, Nat.le_of_ble_eq_true rfl⟩, mm_tbk mm_t4 184 rfl rfl⟩
set_option maxRecDepth 20000 in
theorem cv_X7_clear : mm_cv Y_X7_clear 7 0 := ⟨⟨mm_tbk mm_t1 11 rfl rfl, mm_tbk mm_t4 189 rfl rfl, ⟨by decide +kernel, by decide +kernel, by decide +kernel⟩, Nat.le_of_ble_eq_true rfl⟩, mm_tbk mm_t4 187 rfl rfl, mm_tbk mm_t4 188 rfl rfl, TX7, 5, rfl⟩
set_option maxRecDepth 20000 in
theorem cv_X11_wards : mm_cv Y_X11_wards 11 4 := ⟨⟨mm_tbk mm_t1 1 rfl rfl, mm_tbk mm_t4 219 rfl rfl, ⟨by decide +kernel, by decide +kernel, by decide +kernel⟩, Nat.le_of_ble_eq_true rfl⟩, mm_tbk mm_t4 217 rfl rfl, mm_tbk mm_t4 218 rfl rfl, TX11, 18, rfl⟩
set_option maxRecDepth 20000 in
theorem cv_X11_clerk : mm_cv Y_X11_clerk 11 5 := ⟨⟨mm_tbk mm_t1 1 rfl rfl, mm_tbk mm_t4 223 rfl rfl, ⟨by decide +kernel, by decide +kernel, by decide +kernel⟩, Nat.le_of_ble_eq_true rfl⟩, mm_tbk mm_t4 221 rfl rfl, mm_tbk mm_t4 222 rfl rfl, TX11, 18, rfl⟩
set_option maxRecDepth 20000 in
theorem cv_X1_add : mm_cv Y_X1_add 1 5 := ⟨⟨mm_tbk mm_t1 12 rfl rfl, mm_tbk mm_t4 227 rfl rfl, ⟨by decide +kernel, by decide +kernel, by decide +kernel⟩, Nat.le_of_ble_eq_true rfl⟩, mm_tbk mm_t4 225 rfl rfl, mm_tbk mm_t4 226 rfl rfl, TX1, 8, rfl⟩
set_option maxRecDepth 20000 in
theorem cv_X11_tally : mm_cv Y_X11_tally 11 2 := ⟨⟨mm_tbk mm_t1 1 rfl rfl, mm_tbk mm_t4 231 rfl rfl, ⟨by decide +kernel, by decide +kernel, by decide +kernel⟩, Nat.le_of_ble_eq_true rfl⟩, mm_tbk mm_t4 229 rfl rfl, mm_tbk mm_t4 230 rfl rfl, TX11, 18, rfl⟩
set_option maxRecDepth 20000 in
theorem cv_X11_tallyClerks : mm_cv Y_X11_tallyClerks 11 0 := ⟨⟨mm_tbk mm_t1 1 rfl rfl, mm_tbk mm_t4 235 rfl rfl, ⟨by decide +kernel, by decide +kernel, by decide +kernel⟩, Nat.le_of_ble_eq_true rfl⟩, mm_tbk mm_t4 234 rfl rfl, mm_tbk mm_t0 33 rfl rfl, TX11, 18, rfl⟩
set_option maxRecDepth 20000 in
theorem cv_X1_standing : mm_cv Y_X1_standing 1 3 := ⟨⟨mm_tbk mm_t1 12 rfl rfl, mm_tbk mm_t5 4 rfl rfl, ⟨by decide +kernel, by decide +kernel, by decide +kernel⟩, Nat.le_of_ble_eq_true rfl⟩, mm_tbk mm_t5 2 rfl rfl, mm_tbk mm_t5 3 rfl rfl, TX1, 8, rfl⟩
set_option maxRecDepth 20000 in
theorem cv_X1_addToTally : mm_cv Y_X1_addToTally 1 2 := ⟨⟨mm_tbk mm_t1 12 rfl rfl, mm_tbk mm_t5 8 rfl rfl, ⟨by decide +kernel, by decide +kernel, by decide +kernel⟩, Nat.le_of_ble_eq_true rfl⟩, mm_tbk mm_t5 6 rfl rfl, mm_tbk mm_t5 7 rfl rfl, TX1, 8, rfl⟩
set_option maxRecDepth 20000 in
theorem cv_X1_clearTally : mm_cv Y_X1_clearTally 1 0 := ⟨⟨mm_tbk mm_t1 12 rfl rfl, mm_tbk mm_t4 239 rfl rfl, ⟨by decide +kernel, by decide +kernel, by decide +kernel⟩, Nat.le_of_ble_eq_true rfl⟩, mm_tbk mm_t4 237 rfl rfl, mm_tbk mm_t4 238 rfl rfl, TX1, 8, rfl⟩
set_option maxRecDepth 20000 in
theorem cv_X11_worst : mm_cv Y_X11_worst 11 0 := ⟨⟨mm_tbk mm_t1 1 rfl rfl, mm_tbk mm_t5 12 rfl rfl, ⟨by decide +kernel, by decide +kernel, by decide +kernel⟩, Nat.le_of_ble_eq_true rfl⟩, mm_tbk mm_t5 10 rfl rfl, mm_tbk mm_t5 11 rfl rfl, TX11, 18, rfl⟩
set_option maxRecDepth 20000 in
theorem cv_X1_worstOne : mm_cv Y_X1_worstOne 1 0 := ⟨⟨mm_tbk mm_t1 12 rfl rfl, mm_tbk mm_t5 16 rfl rfl, ⟨by decide +kernel, by decide +kernel, by decide +kernel⟩, Nat.le_of_ble_eq_true rfl⟩, mm_tbk mm_t5 14 rfl rfl, mm_tbk mm_t5 15 rfl rfl, TX1, 8, rfl⟩
set_option maxRecDepth 20000 in
theorem cv_X11_cost : mm_cv Y_X11_cost 11 2 := ⟨⟨mm_tbk mm_t1 1 rfl rfl, mm_tbk mm_t5 20 rfl rfl, ⟨by decide +kernel, by decide +kernel, by decide +kernel⟩, Nat.le_of_ble_eq_true rfl⟩, mm_tbk mm_t5 18 rfl rfl, mm_tbk mm_t5 19 rfl rfl, TX11, 18, rfl⟩
set_option maxRecDepth 20000 in
theorem cv_X11_most : mm_cv Y_X11_most 11 1 := ⟨⟨mm_tbk mm_t1 1 rfl rfl, mm_tbk mm_t5 24 rfl rfl, ⟨by decide +kernel, by decide +kernel, by decide +kernel⟩, Nat.le_of_ble_eq_true rfl⟩, mm_tbk mm_t5 22 rfl rfl, mm_tbk mm_t5 23 rfl rfl, TX11, 18, rfl⟩
set_option maxRecDepth 20000 in
theorem cv_X2_costsAtMost : mm_cv Y_X2_costsAtMost 2 3 := ⟨⟨mm_tbk mm_t1 7 rfl rfl, mm_tbk mm_t5 28 rfl rfl, ⟨by decide +kernel, by decide +kernel, by decide +kernel⟩, Nat.le_of_ble_eq_true rfl⟩, mm_tbk mm_t5 26 rfl rfl, mm_tbk mm_t5 27 rfl rfl, TX2, 7, rfl⟩
set_option maxRecDepth 20000 in
theorem cv_X11_count : mm_cv Y_X11_count 11 1 := ⟨⟨mm_tbk mm_t1 1 rfl rfl, mm_tbk mm_t5 32 rfl rfl, ⟨by decide +kernel, by decide +kernel, by decide +kernel⟩, Nat.le_of_ble_eq_true rfl⟩, mm_tbk mm_t5 30 rfl rfl, mm_tbk mm_t5 31 rfl rfl, TX11, 18, rfl⟩
set_option maxRecDepth 20000 in
theorem cv_X0_toldOnes : mm_cv Y_X0_toldOnes 0 0 := ⟨⟨mm_tbk mm_t1 4 rfl rfl, mm_tbk mm_t5 36 rfl rfl, ⟨by decide +kernel, by decide +kernel, by decide +kernel⟩, Nat.le_of_ble_eq_true rfl⟩, mm_tbk mm_t5 34 rfl rfl, mm_tbk mm_t5 35 rfl rfl, TX0, 5, rfl⟩
set_option maxRecDepth 20000 in
theorem cv_X9_voidedOnes : mm_cv Y_X9_voidedOnes 9 0 := ⟨⟨mm_tbk mm_t1 5 rfl rfl, mm_tbk mm_t5 40 rfl rfl, ⟨by decide +kernel, by decide +kernel, by decide +kernel⟩, Nat.le_of_ble_eq_true rfl⟩, mm_tbk mm_t5 38 rfl rfl, mm_tbk mm_t5 39 rfl rfl, TX9, 8, rfl⟩
set_option maxRecDepth 20000 in
theorem cv_X11_goodNow : mm_cv Y_X11_goodNow 11 1 := ⟨⟨mm_tbk mm_t1 1 rfl rfl, mm_tbk mm_t5 44 rfl rfl, ⟨by decide +kernel, by decide +kernel, by decide +kernel⟩, Nat.le_of_ble_eq_true rfl⟩, mm_tbk mm_t5 43 rfl rfl, mm_tbk mm_t0 34 rfl rfl, TX11, 18, rfl⟩
set_option maxRecDepth 20000 in
theorem cv_X11_weighBack : mm_cv Y_X11_weighBack 11 1 := ⟨⟨mm_tbk mm_t1 1 rfl rfl, mm_tbk mm_t5 140 rfl rfl, ⟨by decide +kernel, by decide +kernel, by decide +kernel⟩, Nat.le_of_ble_eq_true rfl⟩, mm_tbk mm_t5 139 rfl rfl, mm_tbk mm_t0 36 rfl rfl, TX11, 18, rfl⟩
set_option maxRecDepth 20000 in
theorem cv_X3_add : mm_cv Y_X3_add 3 2 := ⟨⟨mm_tbk mm_t1 8 rfl rfl, mm_tbk mm_t5 148 rfl rfl, ⟨by decide +kernel, by decide +kernel, by decide +kernel⟩, Nat.le_of_ble_eq_true rfl⟩, mm_tbk mm_t5 146 rfl rfl, mm_tbk mm_t5 147 rfl rfl, TX3, 2, rfl⟩
set_option maxRecDepth 20000 in
theorem cv_X10_latestGoodSold : mm_cv Y_X10_latestGoodSold 10 1 := ⟨⟨mm_tbk mm_t1 2 rfl rfl, mm_tbk mm_t5 144 rfl rfl, ⟨by decide +kernel, by decide +kernel, by decide +kernel⟩, Nat.le_of_ble_eq_true rfl⟩, mm_tbk mm_t5 142 rfl rfl, mm_tbk mm_t5 143 rfl rfl, TX10, 13, rfl⟩
set_option maxRecDepth 20000 in
theorem cs_J9_max_7cf53 : mm_cs Y_J9_max_7cf53 2 := ⟨⟨mm_tbk mm_t1 20 rfl rfl, mm_tbk mm_t4 148 rfl rfl, ⟨by decide +kernel, by decide +kernel, by decide +kernel⟩, Nat.le_of_ble_eq_true rfl⟩, mm_tbk mm_t4 147 rfl rfl⟩
set_option maxRecDepth 20000 in
theorem cs_J9_min_7cf53 : mm_cs Y_J9_min_7cf53 2 := ⟨⟨mm_tbk mm_t1 20 rfl rfl, mm_tbk mm_t4 135 rfl rfl, ⟨by decide +kernel, by decide +kernel, by decide +kernel⟩, Nat.le_of_ble_eq_true rfl⟩, mm_tbk mm_t4 134 rfl rfl⟩
set_option maxRecDepth 20000 in
theorem cs_J9_abs_0f7a4 : mm_cs Y_J9_abs_0f7a4 1 := ⟨⟨mm_tbk mm_t1 20 rfl rfl, mm_tbk mm_t4 132 rfl rfl, ⟨by decide +kernel, by decide +kernel, by decide +kernel⟩, Nat.le_of_ble_eq_true rfl⟩, mm_tbk mm_t4 131 rfl rfl⟩
/-! cells of system C:
0: YoungBuyers [0 weighing, 1 shops, 2 children, 3 tests, 4 rules, 5 latest, 6 foreseen, 7 fraction, 8 tape, 9 planner, 10 table, 11 clerks, 12 refused, 13 costs, 14 lettered, 15 lettersGiven, 16 today, 17 leaveNow]
1: YoungBuyers$Weighing [0 shops, 1 children, 2 tests, 3 rules, 4 good, 5 ledTo, 6 facts, 7 visits, 8 goods, 9 solds, 10 goodDay, 11 steps, 12 stepDay]
2: YoungBuyers$Shops [0 kind, 1 ward, 2 x, 3 y, 4 weights, 5 isOpen, 6 owners, 7 since, 8 size]
3: YoungBuyers$Children [0 isTold, 1 born, 2 guessed, 3 guesses, 4 knownIn]
4: YoungBuyers$Tests [0 shopOfTest, 1 childOfTest, 2 day, 3 hour, 4 bits, 5 toldOn, 6 voidedOn, 7 size]
5: YoungBuyers$Rules [0 uses, 1 fromDay, 2 lengths, 3 codes, 4 stack, 5 size]
6: YoungBuyers$Draw [0 taken, 1 inside, 2 sure, 3 weights, 4 rest, 5 restWeight, 6 size]
7: YoungBuyers$Draw [0 taken, 1 inside, 2 sure, 3 weights, 4 rest, 5 restWeight, 6 size]
8: YoungBuyers$Fraction [0 above, 1 below]
9: YoungBuyers$Tape [0 bytes, 1 code, 2 size, 3 codeSize, 4 place, 5 fault]
10: YoungBuyers$Planner [0 stops, 1 xs, 2 ys, 3 ways, 4 times, 5 mayFirst, 6 maySecond, 7 size, 8 ofFirst, 9 found, 10 longer, 11 shorter]
11: YoungBuyers$Table [0 chance, 1 firstOnes, 2 firstSold, 3 secondOnes, 4 secondSold]
12: YoungBuyers$Fraction [0 above, 1 below]
13: YoungBuyers$Clerks [0 who, 1 where, 2 from, 3 to, 4 fromDay, 5 tested, 6 sold, 7 size]
14: array int of 6: 0.refused
15: array int of 5: 0.costs
16: array boolean of 40: 0.lettered
17: array boolean of 100: 1.good
18: array int of 100: 1.ledTo
19: array int of 26: 1.facts
20: array int of 320: 1.visits
21: array int of 240: 1.goods
22: array int of 240: 1.solds
23: array int of 240: 1.goodDay
24: array int of 240: 1.steps
25: array int of 240: 1.stepDay
26: array int of 40: 2.kind
27: array int of 40: 2.ward
28: array int of 40: 2.x
29: array int of 40: 2.y
30: array int of 40: 2.weights
31: array boolean of 40: 2.isOpen
32: array int of 40: 2.owners
33: array int of 240: 2.since
34: array boolean of 8: 3.isTold
35: array int of 8: 3.born
36: array int of 8: 3.guessed
37: array int of 96: 3.guesses
38: array boolean of 320: 3.knownIn
39: array int of 100: 4.shopOfTest
40: array int of 100: 4.childOfTest
41: array int of 100: 4.day
42: array int of 100: 4.hour
43: array int of 100: 4.bits
44: array int of 100: 4.toldOn
45: array int of 100: 4.voidedOn
46: array int of 20: 5.uses
47: array int of 20: 5.fromDay
48: array int of 20: 5.lengths
49: array int of 1600: 5.codes
50: array int of 80: 5.stack
51: array boolean of 40: 6.taken
52: array boolean of 40: 6.inside
53: array boolean of 40: 6.sure
54: array int of 40: 6.weights
55: array boolean of 40: 7.taken
56: array boolean of 40: 7.inside
57: array boolean of 40: 7.sure
58: array int of 40: 7.weights
59: array int of 80: 9.bytes
60: array int of 80: 9.code
61: array int of 8: 10.stops
62: array int of 9: 10.xs
63: array int of 9: 10.ys
64: array int of 2048: 10.ways
65: array int of 256: 10.times
66: array boolean of 8: 10.mayFirst
67: array boolean of 8: 10.maySecond
68: array int of 40: 13.who
69: array int of 40: 13.where
70: array int of 40: 13.from
71: array int of 40: 13.to
72: array int of 40: 13.fromDay
73: array int of 10: 13.tested
74: array int of 10: 13.sold -/
def lay_C_cells : List mm_O := [.inl (11, [(2, 1), (2, 2), (2, 3), (2, 4), (2, 5), (2, 6), (2, 7), (2, 8), (2, 9), (2, 10), (2, 11), (2, 13), (2, 14), (2, 15), (2, 16), (0, 0), (0, 0), (0, 0)]), .inl (10, [(2, 2), (2, 3), (2, 4), (2, 5), (2, 17), (2, 18), (2, 19), (2, 20), (2, 21), (2, 22), (2, 23), (2, 24), (2, 25)]), .inl (6, [(2, 26), (2, 27), (2, 28), (2, 29), (2, 30), (2, 31), (2, 32), (2, 33), (0, 0)]), .inl (0, [(2, 34), (2, 35), (2, 36), (2, 37), (2, 38)]), .inl (9, [(2, 39), (2, 40), (2, 41), (2, 42), (2, 43), (2, 44), (2, 45), (0, 0)]), .inl (5, [(2, 46), (2, 47), (2, 48), (2, 49), (2, 50), (0, 0)]), .inl (2, [(2, 51), (2, 52), (2, 53), (2, 54), (0, 0), (0, 0), (0, 0)]), .inl (2, [(2, 55), (2, 56), (2, 57), (2, 58), (0, 0), (0, 0), (0, 0)]), .inl (3, [(1, 0), (1, 0)]), .inl (8, [(2, 59), (2, 60), (0, 0), (0, 0), (0, 0), (0, 0)]), .inl (4, [(2, 61), (2, 62), (2, 63), (2, 64), (2, 65), (2, 66), (2, 67), (0, 0), (0, 0), (3, 0), (0, 0), (0, 0)]), .inl (7, [(2, 12), (0, 0), (0, 0), (0, 0), (0, 0)]), .inl (3, [(1, 0), (1, 0)]), .inl (1, [(2, 68), (2, 69), (2, 70), (2, 71), (2, 72), (2, 73), (2, 74), (0, 0)]), .inr (0, 6), .inr (0, 5), .inr (1, 40), .inr (1, 100), .inr (0, 100), .inr (0, 26), .inr (0, 320), .inr (0, 240), .inr (0, 240), .inr (0, 240), .inr (0, 240), .inr (0, 240), .inr (0, 40), .inr (0, 40), .inr (0, 40), .inr (0, 40), .inr (0, 40), .inr (1, 40), .inr (0, 40), .inr (0, 240), .inr (1, 8), .inr (0, 8), .inr (0, 8), .inr (0, 96), .inr (1, 320), .inr (0, 100), .inr (0, 100), .inr (0, 100), .inr (0, 100), .inr (0, 100), .inr (0, 100), .inr (0, 100), .inr (0, 20), .inr (0, 20), .inr (0, 20), .inr (0, 1600), .inr (0, 80), .inr (1, 40), .inr (1, 40), .inr (1, 40), .inr (0, 40), .inr (1, 40), .inr (1, 40), .inr (1, 40), .inr (0, 40), .inr (0, 80), .inr (0, 80), .inr (0, 8), .inr (0, 9), .inr (0, 9), .inr (0, 2048), .inr (0, 256), .inr (1, 8), .inr (1, 8), .inr (0, 40), .inr (0, 40), .inr (0, 40), .inr (0, 40), .inr (0, 40), .inr (0, 10), .inr (0, 10)]
def sysC : mm_S := (fun k => lay_C_cells.getD k (.inr (0, 0)), 75)
theorem ob_C_0 : mm_ob sysC 0 11 [(2, 1), (2, 2), (2, 3), (2, 4), (2, 5), (2, 6), (2, 7), (2, 8), (2, 9), (2, 10), (2, 11), (2, 13), (2, 14), (2, 15), (2, 16), (0, 0), (0, 0), (0, 0)] := ⟨Nat.le_of_ble_eq_true rfl, rfl⟩
theorem ob_C_1 : mm_ob sysC 1 10 [(2, 2), (2, 3), (2, 4), (2, 5), (2, 17), (2, 18), (2, 19), (2, 20), (2, 21), (2, 22), (2, 23), (2, 24), (2, 25)] := ⟨Nat.le_of_ble_eq_true rfl, rfl⟩
theorem ob_C_2 : mm_ob sysC 2 6 [(2, 26), (2, 27), (2, 28), (2, 29), (2, 30), (2, 31), (2, 32), (2, 33), (0, 0)] := ⟨Nat.le_of_ble_eq_true rfl, rfl⟩
theorem ob_C_3 : mm_ob sysC 3 0 [(2, 34), (2, 35), (2, 36), (2, 37), (2, 38)] := ⟨Nat.le_of_ble_eq_true rfl, rfl⟩
theorem ob_C_4 : mm_ob sysC 4 9 [(2, 39), (2, 40), (2, 41), (2, 42), (2, 43), (2, 44), (2, 45), (0, 0)] := ⟨Nat.le_of_ble_eq_true rfl, rfl⟩
theorem ob_C_5 : mm_ob sysC 5 5 [(2, 46), (2, 47), (2, 48), (2, 49), (2, 50), (0, 0)] := ⟨Nat.le_of_ble_eq_true rfl, rfl⟩
theorem ob_C_6 : mm_ob sysC 6 2 [(2, 51), (2, 52), (2, 53), (2, 54), (0, 0), (0, 0), (0, 0)] := ⟨Nat.le_of_ble_eq_true rfl, rfl⟩
theorem ob_C_7 : mm_ob sysC 7 2 [(2, 55), (2, 56), (2, 57), (2, 58), (0, 0), (0, 0), (0, 0)] := ⟨Nat.le_of_ble_eq_true rfl, rfl⟩
theorem ob_C_8 : mm_ob sysC 8 3 [(1, 0), (1, 0)] := ⟨Nat.le_of_ble_eq_true rfl, rfl⟩
theorem ob_C_9 : mm_ob sysC 9 8 [(2, 59), (2, 60), (0, 0), (0, 0), (0, 0), (0, 0)] := ⟨Nat.le_of_ble_eq_true rfl, rfl⟩
theorem ob_C_10 : mm_ob sysC 10 4 [(2, 61), (2, 62), (2, 63), (2, 64), (2, 65), (2, 66), (2, 67), (0, 0), (0, 0), (3, 0), (0, 0), (0, 0)] := ⟨Nat.le_of_ble_eq_true rfl, rfl⟩
theorem ob_C_11 : mm_ob sysC 11 7 [(2, 12), (0, 0), (0, 0), (0, 0), (0, 0)] := ⟨Nat.le_of_ble_eq_true rfl, rfl⟩
theorem ob_C_12 : mm_ob sysC 12 3 [(1, 0), (1, 0)] := ⟨Nat.le_of_ble_eq_true rfl, rfl⟩
theorem ob_C_13 : mm_ob sysC 13 1 [(2, 68), (2, 69), (2, 70), (2, 71), (2, 72), (2, 73), (2, 74), (0, 0)] := ⟨Nat.le_of_ble_eq_true rfl, rfl⟩
theorem ar_C_14 : mm_ar sysC 14 0 6 := ⟨Nat.le_of_ble_eq_true rfl, rfl⟩
theorem ar_C_15 : mm_ar sysC 15 0 5 := ⟨Nat.le_of_ble_eq_true rfl, rfl⟩
theorem ar_C_16 : mm_ar sysC 16 1 40 := ⟨Nat.le_of_ble_eq_true rfl, rfl⟩
theorem ar_C_17 : mm_ar sysC 17 1 100 := ⟨Nat.le_of_ble_eq_true rfl, rfl⟩
theorem ar_C_18 : mm_ar sysC 18 0 100 := ⟨Nat.le_of_ble_eq_true rfl, rfl⟩
theorem ar_C_19 : mm_ar sysC 19 0 26 := ⟨Nat.le_of_ble_eq_true rfl, rfl⟩
theorem ar_C_20 : mm_ar sysC 20 0 320 := ⟨Nat.le_of_ble_eq_true rfl, rfl⟩
theorem ar_C_21 : mm_ar sysC 21 0 240 := ⟨Nat.le_of_ble_eq_true rfl, rfl⟩
theorem ar_C_22 : mm_ar sysC 22 0 240 := ⟨Nat.le_of_ble_eq_true rfl, rfl⟩
theorem ar_C_23 : mm_ar sysC 23 0 240 := ⟨Nat.le_of_ble_eq_true rfl, rfl⟩
theorem ar_C_24 : mm_ar sysC 24 0 240 := ⟨Nat.le_of_ble_eq_true rfl, rfl⟩
theorem ar_C_25 : mm_ar sysC 25 0 240 := ⟨Nat.le_of_ble_eq_true rfl, rfl⟩
theorem ar_C_26 : mm_ar sysC 26 0 40 := ⟨Nat.le_of_ble_eq_true rfl, rfl⟩
theorem ar_C_27 : mm_ar sysC 27 0 40 := ⟨Nat.le_of_ble_eq_true rfl, rfl⟩
theorem ar_C_28 : mm_ar sysC 28 0 40 := ⟨Nat.le_of_ble_eq_true rfl, rfl⟩
theorem ar_C_29 : mm_ar sysC 29 0 40 := ⟨Nat.le_of_ble_eq_true rfl, rfl⟩
theorem ar_C_30 : mm_ar sysC 30 0 40 := ⟨Nat.le_of_ble_eq_true rfl, rfl⟩
theorem ar_C_31 : mm_ar sysC 31 1 40 := ⟨Nat.le_of_ble_eq_true rfl, rfl⟩
theorem ar_C_32 : mm_ar sysC 32 0 40 := ⟨Nat.le_of_ble_eq_true rfl, rfl⟩
theorem ar_C_33 : mm_ar sysC 33 0 240 := ⟨Nat.le_of_ble_eq_true rfl, rfl⟩
theorem ar_C_34 : mm_ar sysC 34 1 8 := ⟨Nat.le_of_ble_eq_true rfl, rfl⟩
theorem ar_C_35 : mm_ar sysC 35 0 8 := ⟨Nat.le_of_ble_eq_true rfl, rfl⟩
theorem ar_C_36 : mm_ar sysC 36 0 8 := ⟨Nat.le_of_ble_eq_true rfl, rfl⟩
theorem ar_C_37 : mm_ar sysC 37 0 96 := ⟨Nat.le_of_ble_eq_true rfl, rfl⟩
theorem ar_C_38 : mm_ar sysC 38 1 320 := ⟨Nat.le_of_ble_eq_true rfl, rfl⟩
theorem ar_C_39 : mm_ar sysC 39 0 100 := ⟨Nat.le_of_ble_eq_true rfl, rfl⟩
theorem ar_C_40 : mm_ar sysC 40 0 100 := ⟨Nat.le_of_ble_eq_true rfl, rfl⟩
theorem ar_C_41 : mm_ar sysC 41 0 100 := ⟨Nat.le_of_ble_eq_true rfl, rfl⟩
theorem ar_C_42 : mm_ar sysC 42 0 100 := ⟨Nat.le_of_ble_eq_true rfl, rfl⟩
theorem ar_C_43 : mm_ar sysC 43 0 100 := ⟨Nat.le_of_ble_eq_true rfl, rfl⟩
theorem ar_C_44 : mm_ar sysC 44 0 100 := ⟨Nat.le_of_ble_eq_true rfl, rfl⟩
theorem ar_C_45 : mm_ar sysC 45 0 100 := ⟨Nat.le_of_ble_eq_true rfl, rfl⟩
theorem ar_C_46 : mm_ar sysC 46 0 20 := ⟨Nat.le_of_ble_eq_true rfl, rfl⟩
theorem ar_C_47 : mm_ar sysC 47 0 20 := ⟨Nat.le_of_ble_eq_true rfl, rfl⟩
theorem ar_C_48 : mm_ar sysC 48 0 20 := ⟨Nat.le_of_ble_eq_true rfl, rfl⟩
theorem ar_C_49 : mm_ar sysC 49 0 1600 := ⟨Nat.le_of_ble_eq_true rfl, rfl⟩
theorem ar_C_50 : mm_ar sysC 50 0 80 := ⟨Nat.le_of_ble_eq_true rfl, rfl⟩
theorem ar_C_51 : mm_ar sysC 51 1 40 := ⟨Nat.le_of_ble_eq_true rfl, rfl⟩
theorem ar_C_52 : mm_ar sysC 52 1 40 := ⟨Nat.le_of_ble_eq_true rfl, rfl⟩
theorem ar_C_53 : mm_ar sysC 53 1 40 := ⟨Nat.le_of_ble_eq_true rfl, rfl⟩
theorem ar_C_54 : mm_ar sysC 54 0 40 := ⟨Nat.le_of_ble_eq_true rfl, rfl⟩
theorem ar_C_55 : mm_ar sysC 55 1 40 := ⟨Nat.le_of_ble_eq_true rfl, rfl⟩
theorem ar_C_56 : mm_ar sysC 56 1 40 := ⟨Nat.le_of_ble_eq_true rfl, rfl⟩
theorem ar_C_57 : mm_ar sysC 57 1 40 := ⟨Nat.le_of_ble_eq_true rfl, rfl⟩
theorem ar_C_58 : mm_ar sysC 58 0 40 := ⟨Nat.le_of_ble_eq_true rfl, rfl⟩
theorem ar_C_59 : mm_ar sysC 59 0 80 := ⟨Nat.le_of_ble_eq_true rfl, rfl⟩
theorem ar_C_60 : mm_ar sysC 60 0 80 := ⟨Nat.le_of_ble_eq_true rfl, rfl⟩
theorem ar_C_61 : mm_ar sysC 61 0 8 := ⟨Nat.le_of_ble_eq_true rfl, rfl⟩
theorem ar_C_62 : mm_ar sysC 62 0 9 := ⟨Nat.le_of_ble_eq_true rfl, rfl⟩
theorem ar_C_63 : mm_ar sysC 63 0 9 := ⟨Nat.le_of_ble_eq_true rfl, rfl⟩
theorem ar_C_64 : mm_ar sysC 64 0 2048 := ⟨Nat.le_of_ble_eq_true rfl, rfl⟩
theorem ar_C_65 : mm_ar sysC 65 0 256 := ⟨Nat.le_of_ble_eq_true rfl, rfl⟩
theorem ar_C_66 : mm_ar sysC 66 1 8 := ⟨Nat.le_of_ble_eq_true rfl, rfl⟩
theorem ar_C_67 : mm_ar sysC 67 1 8 := ⟨Nat.le_of_ble_eq_true rfl, rfl⟩
theorem ar_C_68 : mm_ar sysC 68 0 40 := ⟨Nat.le_of_ble_eq_true rfl, rfl⟩
theorem ar_C_69 : mm_ar sysC 69 0 40 := ⟨Nat.le_of_ble_eq_true rfl, rfl⟩
theorem ar_C_70 : mm_ar sysC 70 0 40 := ⟨Nat.le_of_ble_eq_true rfl, rfl⟩
theorem ar_C_71 : mm_ar sysC 71 0 40 := ⟨Nat.le_of_ble_eq_true rfl, rfl⟩
theorem ar_C_72 : mm_ar sysC 72 0 40 := ⟨Nat.le_of_ble_eq_true rfl, rfl⟩
theorem ar_C_73 : mm_ar sysC 73 0 10 := ⟨Nat.le_of_ble_eq_true rfl, rfl⟩
theorem ar_C_74 : mm_ar sysC 74 0 10 := ⟨Nat.le_of_ble_eq_true rfl, rfl⟩
/-! cells of system R:
0: YoungBuyersModel [0 thrown, 1 day, 2 shops, 3 kind, 4 ward, 5 shopX, 6 shopY, 7 weight, 8 isOpen, 9 owners, 10 ownerFrom, 11 isChild, 12 born, 13 guesses, 14 guess, 15 isKnown, 16 refused, 17 hasDraw, 18 isDrawn, 19 partTop, 20 partBelow, 21 isSure, 22 left, 23 weights, 24 sumTop, 25 sumBelow, 26 tape, 27 tapeMany, 28 rules, 29 ruleUse, 30 ruleDay, 31 ruleText, 32 ruleSize, 33 read, 34 readMany, 35 at, 36 isBad, 37 factNow, 38 signs, 39 signMany, 40 held, 41 heldMany, 42 deep, 43 tests, 44 testShop, 45 testChild, 46 testDay, 47 hour, 48 bits, 49 knownOn, 50 voidedOn, 51 doesCount, 52 isGood, 53 stepTo, 54 fact, 55 stepOf, 56 stepDay, 57 goodOf, 58 soldOf, 59 goodDay, 60 leave, 61 work, 62 workMany, 63 mayDo, 64 onWay, 65 bestSet, 66 bestLong, 67 bestShort, 68 hasLetter, 69 table, 70 stands, 71 standClerk, 72 standShop, 73 standFrom, 74 standTo, 75 standDay, 76 costs]
1: array int of 40: 0.kind
2: array int of 40: 0.ward
3: array int of 40: 0.shopX
4: array int of 40: 0.shopY
5: array int of 40: 0.weight
6: array boolean of 40: 0.isOpen
7: array int of 40: 0.owners
8: array int of 240: 0.ownerFrom
9: array boolean of 8: 0.isChild
10: array int of 8: 0.born
11: array int of 8: 0.guesses
12: array int of 96: 0.guess
13: array boolean of 320: 0.isKnown
14: array int of 7: 0.refused
15: array boolean of 40: 0.isDrawn
16: array int of 40: 0.partTop
17: array int of 40: 0.partBelow
18: array boolean of 40: 0.isSure
19: array int of 80: 0.tape
20: array int of 20: 0.ruleUse
21: array int of 20: 0.ruleDay
22: array int of 1600: 0.ruleText
23: array int of 20: 0.ruleSize
24: array int of 80: 0.read
25: array int of 13: 0.factNow
26: array int of 100: 0.signs
27: array boolean of 100: 0.held
28: array int of 100: 0.testShop
29: array int of 100: 0.testChild
30: array int of 100: 0.testDay
31: array int of 100: 0.hour
32: array int of 100: 0.bits
33: array int of 100: 0.knownOn
34: array int of 100: 0.voidedOn
35: array boolean of 100: 0.doesCount
36: array boolean of 100: 0.isGood
37: array int of 100: 0.stepTo
38: array int of 1300: 0.fact
39: array int of 240: 0.stepOf
40: array int of 240: 0.stepDay
41: array int of 240: 0.goodOf
42: array int of 240: 0.soldOf
43: array int of 240: 0.goodDay
44: array int of 8: 0.work
45: array int of 2: 0.mayDo
46: array int of 2304: 0.onWay
47: array boolean of 40: 0.hasLetter
48: array int of 4: 0.table
49: array int of 40: 0.standClerk
50: array int of 40: 0.standShop
51: array int of 40: 0.standFrom
52: array int of 40: 0.standTo
53: array int of 40: 0.standDay
54: array int of 5: 0.costs -/
def lay_R_cells : List mm_O := [.inl (12, [(0, 0), (0, 0), (0, 0), (2, 1), (2, 2), (2, 3), (2, 4), (2, 5), (2, 6), (2, 7), (2, 8), (2, 9), (2, 10), (2, 11), (2, 12), (2, 13), (2, 14), (3, 0), (2, 15), (2, 16), (2, 17), (2, 18), (0, 0), (0, 0), (1, 0), (1, 0), (2, 19), (0, 0), (0, 0), (2, 20), (2, 21), (2, 22), (2, 23), (2, 24), (0, 0), (0, 0), (3, 0), (2, 25), (2, 26), (0, 0), (2, 27), (0, 0), (0, 0), (0, 0), (2, 28), (2, 29), (2, 30), (2, 31), (2, 32), (2, 33), (2, 34), (2, 35), (2, 36), (2, 37), (2, 38), (2, 39), (2, 40), (2, 41), (2, 42), (2, 43), (0, 0), (2, 44), (0, 0), (2, 45), (2, 46), (0, 0), (0, 0), (0, 0), (2, 47), (2, 48), (0, 0), (2, 49), (2, 50), (2, 51), (2, 52), (2, 53), (2, 54)]), .inr (0, 40), .inr (0, 40), .inr (0, 40), .inr (0, 40), .inr (0, 40), .inr (1, 40), .inr (0, 40), .inr (0, 240), .inr (1, 8), .inr (0, 8), .inr (0, 8), .inr (0, 96), .inr (1, 320), .inr (0, 7), .inr (1, 40), .inr (0, 40), .inr (0, 40), .inr (1, 40), .inr (0, 80), .inr (0, 20), .inr (0, 20), .inr (0, 1600), .inr (0, 20), .inr (0, 80), .inr (0, 13), .inr (0, 100), .inr (1, 100), .inr (0, 100), .inr (0, 100), .inr (0, 100), .inr (0, 100), .inr (0, 100), .inr (0, 100), .inr (0, 100), .inr (1, 100), .inr (1, 100), .inr (0, 100), .inr (0, 1300), .inr (0, 240), .inr (0, 240), .inr (0, 240), .inr (0, 240), .inr (0, 240), .inr (0, 8), .inr (0, 2), .inr (0, 2304), .inr (1, 40), .inr (0, 4), .inr (0, 40), .inr (0, 40), .inr (0, 40), .inr (0, 40), .inr (0, 40), .inr (0, 5)]
def sysR : mm_S := (fun k => lay_R_cells.getD k (.inr (0, 0)), 55)
theorem ob_R_0 : mm_ob sysR 0 12 [(0, 0), (0, 0), (0, 0), (2, 1), (2, 2), (2, 3), (2, 4), (2, 5), (2, 6), (2, 7), (2, 8), (2, 9), (2, 10), (2, 11), (2, 12), (2, 13), (2, 14), (3, 0), (2, 15), (2, 16), (2, 17), (2, 18), (0, 0), (0, 0), (1, 0), (1, 0), (2, 19), (0, 0), (0, 0), (2, 20), (2, 21), (2, 22), (2, 23), (2, 24), (0, 0), (0, 0), (3, 0), (2, 25), (2, 26), (0, 0), (2, 27), (0, 0), (0, 0), (0, 0), (2, 28), (2, 29), (2, 30), (2, 31), (2, 32), (2, 33), (2, 34), (2, 35), (2, 36), (2, 37), (2, 38), (2, 39), (2, 40), (2, 41), (2, 42), (2, 43), (0, 0), (2, 44), (0, 0), (2, 45), (2, 46), (0, 0), (0, 0), (0, 0), (2, 47), (2, 48), (0, 0), (2, 49), (2, 50), (2, 51), (2, 52), (2, 53), (2, 54)] := ⟨Nat.le_of_ble_eq_true rfl, rfl⟩
theorem ar_R_1 : mm_ar sysR 1 0 40 := ⟨Nat.le_of_ble_eq_true rfl, rfl⟩
theorem ar_R_2 : mm_ar sysR 2 0 40 := ⟨Nat.le_of_ble_eq_true rfl, rfl⟩
theorem ar_R_3 : mm_ar sysR 3 0 40 := ⟨Nat.le_of_ble_eq_true rfl, rfl⟩
theorem ar_R_4 : mm_ar sysR 4 0 40 := ⟨Nat.le_of_ble_eq_true rfl, rfl⟩
theorem ar_R_5 : mm_ar sysR 5 0 40 := ⟨Nat.le_of_ble_eq_true rfl, rfl⟩
theorem ar_R_6 : mm_ar sysR 6 1 40 := ⟨Nat.le_of_ble_eq_true rfl, rfl⟩
theorem ar_R_7 : mm_ar sysR 7 0 40 := ⟨Nat.le_of_ble_eq_true rfl, rfl⟩
theorem ar_R_8 : mm_ar sysR 8 0 240 := ⟨Nat.le_of_ble_eq_true rfl, rfl⟩
theorem ar_R_9 : mm_ar sysR 9 1 8 := ⟨Nat.le_of_ble_eq_true rfl, rfl⟩
theorem ar_R_10 : mm_ar sysR 10 0 8 := ⟨Nat.le_of_ble_eq_true rfl, rfl⟩
theorem ar_R_11 : mm_ar sysR 11 0 8 := ⟨Nat.le_of_ble_eq_true rfl, rfl⟩
theorem ar_R_12 : mm_ar sysR 12 0 96 := ⟨Nat.le_of_ble_eq_true rfl, rfl⟩
theorem ar_R_13 : mm_ar sysR 13 1 320 := ⟨Nat.le_of_ble_eq_true rfl, rfl⟩
theorem ar_R_14 : mm_ar sysR 14 0 7 := ⟨Nat.le_of_ble_eq_true rfl, rfl⟩
theorem ar_R_15 : mm_ar sysR 15 1 40 := ⟨Nat.le_of_ble_eq_true rfl, rfl⟩
theorem ar_R_16 : mm_ar sysR 16 0 40 := ⟨Nat.le_of_ble_eq_true rfl, rfl⟩
theorem ar_R_17 : mm_ar sysR 17 0 40 := ⟨Nat.le_of_ble_eq_true rfl, rfl⟩
theorem ar_R_18 : mm_ar sysR 18 1 40 := ⟨Nat.le_of_ble_eq_true rfl, rfl⟩
theorem ar_R_19 : mm_ar sysR 19 0 80 := ⟨Nat.le_of_ble_eq_true rfl, rfl⟩
theorem ar_R_20 : mm_ar sysR 20 0 20 := ⟨Nat.le_of_ble_eq_true rfl, rfl⟩
theorem ar_R_21 : mm_ar sysR 21 0 20 := ⟨Nat.le_of_ble_eq_true rfl, rfl⟩
theorem ar_R_22 : mm_ar sysR 22 0 1600 := ⟨Nat.le_of_ble_eq_true rfl, rfl⟩
theorem ar_R_23 : mm_ar sysR 23 0 20 := ⟨Nat.le_of_ble_eq_true rfl, rfl⟩
theorem ar_R_24 : mm_ar sysR 24 0 80 := ⟨Nat.le_of_ble_eq_true rfl, rfl⟩
theorem ar_R_25 : mm_ar sysR 25 0 13 := ⟨Nat.le_of_ble_eq_true rfl, rfl⟩
theorem ar_R_26 : mm_ar sysR 26 0 100 := ⟨Nat.le_of_ble_eq_true rfl, rfl⟩
theorem ar_R_27 : mm_ar sysR 27 1 100 := ⟨Nat.le_of_ble_eq_true rfl, rfl⟩
theorem ar_R_28 : mm_ar sysR 28 0 100 := ⟨Nat.le_of_ble_eq_true rfl, rfl⟩
theorem ar_R_29 : mm_ar sysR 29 0 100 := ⟨Nat.le_of_ble_eq_true rfl, rfl⟩
theorem ar_R_30 : mm_ar sysR 30 0 100 := ⟨Nat.le_of_ble_eq_true rfl, rfl⟩
theorem ar_R_31 : mm_ar sysR 31 0 100 := ⟨Nat.le_of_ble_eq_true rfl, rfl⟩
theorem ar_R_32 : mm_ar sysR 32 0 100 := ⟨Nat.le_of_ble_eq_true rfl, rfl⟩
theorem ar_R_33 : mm_ar sysR 33 0 100 := ⟨Nat.le_of_ble_eq_true rfl, rfl⟩
theorem ar_R_34 : mm_ar sysR 34 0 100 := ⟨Nat.le_of_ble_eq_true rfl, rfl⟩
theorem ar_R_35 : mm_ar sysR 35 1 100 := ⟨Nat.le_of_ble_eq_true rfl, rfl⟩
theorem ar_R_36 : mm_ar sysR 36 1 100 := ⟨Nat.le_of_ble_eq_true rfl, rfl⟩
theorem ar_R_37 : mm_ar sysR 37 0 100 := ⟨Nat.le_of_ble_eq_true rfl, rfl⟩
theorem ar_R_38 : mm_ar sysR 38 0 1300 := ⟨Nat.le_of_ble_eq_true rfl, rfl⟩
theorem ar_R_39 : mm_ar sysR 39 0 240 := ⟨Nat.le_of_ble_eq_true rfl, rfl⟩
theorem ar_R_40 : mm_ar sysR 40 0 240 := ⟨Nat.le_of_ble_eq_true rfl, rfl⟩
theorem ar_R_41 : mm_ar sysR 41 0 240 := ⟨Nat.le_of_ble_eq_true rfl, rfl⟩
theorem ar_R_42 : mm_ar sysR 42 0 240 := ⟨Nat.le_of_ble_eq_true rfl, rfl⟩
theorem ar_R_43 : mm_ar sysR 43 0 240 := ⟨Nat.le_of_ble_eq_true rfl, rfl⟩
theorem ar_R_44 : mm_ar sysR 44 0 8 := ⟨Nat.le_of_ble_eq_true rfl, rfl⟩
theorem ar_R_45 : mm_ar sysR 45 0 2 := ⟨Nat.le_of_ble_eq_true rfl, rfl⟩
theorem ar_R_46 : mm_ar sysR 46 0 2304 := ⟨Nat.le_of_ble_eq_true rfl, rfl⟩
theorem ar_R_47 : mm_ar sysR 47 1 40 := ⟨Nat.le_of_ble_eq_true rfl, rfl⟩
theorem ar_R_48 : mm_ar sysR 48 0 4 := ⟨Nat.le_of_ble_eq_true rfl, rfl⟩
theorem ar_R_49 : mm_ar sysR 49 0 40 := ⟨Nat.le_of_ble_eq_true rfl, rfl⟩
theorem ar_R_50 : mm_ar sysR 50 0 40 := ⟨Nat.le_of_ble_eq_true rfl, rfl⟩
theorem ar_R_51 : mm_ar sysR 51 0 40 := ⟨Nat.le_of_ble_eq_true rfl, rfl⟩
theorem ar_R_52 : mm_ar sysR 52 0 40 := ⟨Nat.le_of_ble_eq_true rfl, rfl⟩
theorem ar_R_53 : mm_ar sysR 53 0 40 := ⟨Nat.le_of_ble_eq_true rfl, rfl⟩
theorem ar_R_54 : mm_ar sysR 54 0 5 := ⟨Nat.le_of_ble_eq_true rfl, rfl⟩
