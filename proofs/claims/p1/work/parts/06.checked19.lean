theorem zk_m208 : zk_head 208 = true ∧ ∀ i, zk_chunk 208 i = true := zk_of (by decide +kernel)
theorem zk_m209 : zk_head 209 = true ∧ ∀ i, zk_chunk 209 i = true := zk_of (by decide +kernel)
theorem zk_m210 : zk_head 210 = true ∧ ∀ i, zk_chunk 210 i = true := zk_of (by decide +kernel)
