theorem zk_c5_0 : zk_chunk 249 (16 * 5 + 0) = true := by decide +kernel
theorem zk_c5_1 : zk_chunk 249 (16 * 5 + 1) = true := by decide +kernel
theorem zk_c5_2 : zk_chunk 249 (16 * 5 + 2) = true := by decide +kernel
theorem zk_c5_3 : zk_chunk 249 (16 * 5 + 3) = true := by decide +kernel
theorem zk_c5_4 : zk_chunk 249 (16 * 5 + 4) = true := by decide +kernel
theorem zk_c5_5 : zk_chunk 249 (16 * 5 + 5) = true := by decide +kernel
theorem zk_c5_6 : zk_chunk 249 (16 * 5 + 6) = true := by decide +kernel
theorem zk_c5_7 : zk_chunk 249 (16 * 5 + 7) = true := by decide +kernel
theorem zk_c5_8 : zk_chunk 249 (16 * 5 + 8) = true := by decide +kernel
theorem zk_c5_9 : zk_chunk 249 (16 * 5 + 9) = true := by decide +kernel
theorem zk_c5_10 : zk_chunk 249 (16 * 5 + 10) = true := by decide +kernel
theorem zk_c5_11 : zk_chunk 249 (16 * 5 + 11) = true := by decide +kernel
theorem zk_c5_12 : zk_chunk 249 (16 * 5 + 12) = true := by decide +kernel
theorem zk_c5_13 : zk_chunk 249 (16 * 5 + 13) = true := by decide +kernel
theorem zk_c5_14 : zk_chunk 249 (16 * 5 + 14) = true := by decide +kernel
theorem zk_c5_15 : zk_chunk 249 (16 * 5 + 15) = true := by decide +kernel
theorem zk_l5 : (List.range 16).all (fun j => zk_chunk 249 (16 * 5 + j)) = true := List.all_eq_true.mpr (fun j hj => by
  have hj := List.mem_range.mp hj
  match j, hj with
  | 0, _ => exact zk_c5_0
  | 1, _ => exact zk_c5_1
  | 2, _ => exact zk_c5_2
  | 3, _ => exact zk_c5_3
  | 4, _ => exact zk_c5_4
  | 5, _ => exact zk_c5_5
  | 6, _ => exact zk_c5_6
  | 7, _ => exact zk_c5_7
  | 8, _ => exact zk_c5_8
  | 9, _ => exact zk_c5_9
  | 10, _ => exact zk_c5_10
  | 11, _ => exact zk_c5_11
  | 12, _ => exact zk_c5_12
  | 13, _ => exact zk_c5_13
  | 14, _ => exact zk_c5_14
  | 15, _ => exact zk_c5_15
  | k + 16, hj => omega)
