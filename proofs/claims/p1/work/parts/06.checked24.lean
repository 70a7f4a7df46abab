theorem zk_l3 : (List.range 16).all (fun j => zk_chunk 249 (16 * 3 + j)) = true := by decide +kernel
theorem zk_l4 : (List.range 16).all (fun j => zk_chunk 249 (16 * 4 + j)) = true := by decide +kernel
