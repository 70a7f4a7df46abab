theorem zk_l0 : (List.range 16).all (fun j => zk_chunk 249 (16 * 0 + j)) = true := by decide +kernel
theorem zk_l1 : (List.range 16).all (fun j => zk_chunk 249 (16 * 1 + j)) = true := by decide +kernel
theorem zk_l2 : (List.range 16).all (fun j => zk_chunk 249 (16 * 2 + j)) = true := by decide +kernel
