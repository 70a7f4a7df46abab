theorem zk_l5 : (List.range 16).all (fun j => zk_chunk 249 (16 * 5 + j)) = true := by decide +kernel
