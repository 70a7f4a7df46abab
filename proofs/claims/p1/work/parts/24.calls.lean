/-! Each call. -/
theorem zr_8 : zq_go [zy_op 8 [zy_rg, zy_a, zy_a, zy_a, zy_a] []] = true := by decide +kernel
section
variable {xs : Nat → Int32}
theorem zl_call1 (hk : zi_and (xs 0).toInt 31 = 1) : zl_W 6 xs := by
  exact zl_run0 zr_a1 (zl_l (zl_l (zl_l (zl_l (zl_l (zl_l (zl_alli hk rfl)))))))
theorem zl_call3 (hk : zi_and (xs 0).toInt 31 = 3) : zl_W 6 xs := by
  exact zl_run0 zr_a1 (zl_l (zl_l (zl_l (zl_l (zl_l (zl_r (zl_alli hk rfl)))))))
theorem zl_call4 (hk : zi_and (xs 0).toInt 31 = 4) : zl_W 6 xs := by
  exact zl_run0 zr_a1 (zl_l (zl_l (zl_l (zl_l (zl_r (zl_alli hk rfl))))))
theorem zl_call7 (hk : zi_and (xs 0).toInt 31 = 7) : zl_W 6 xs := by
  exact zl_run0 zr_a1 (zl_l (zl_l (zl_l (zl_r (zl_alli hk rfl)))))
theorem zl_call9 (hk : zi_and (xs 0).toInt 31 = 9) : zl_W 6 xs := by
  exact zl_run0 zr_a1 (zl_l (zl_l (zl_r (zl_alli hk rfl))))
theorem zl_call2 (hk : zi_and (xs 0).toInt 31 = 2) : zl_W 6 xs := by
  rcases Int.lt_trichotomy (xs 1).toInt 0 with h | h | h
  · exact zl_run0 zr_a1 (zl_l (zl_r ⟨_, .head _, zl_5 hk rfl ⟨(zl_32 _).1, by show (xs 1).toInt ≤ -1; omega⟩ (zl_32 _) (zl_32 _) (zl_32 _) (zl_32 _) (fun w hw => absurd hw List.not_mem_nil)⟩))
  · exact zl_run0 zr_a1 (zl_l (zl_r ⟨_, .tail _ (.head _), zl_5 hk rfl ⟨by show 0 ≤ (xs 1).toInt; omega, by show (xs 1).toInt ≤ 0; omega⟩ (zl_32 _) (zl_32 _) (zl_32 _) (zl_32 _) (fun w hw => absurd hw List.not_mem_nil)⟩))
  · exact zl_run0 zr_a1 (zl_l (zl_r ⟨_, .tail _ (.tail _ (.head _)), zl_5 hk rfl ⟨by show 1 ≤ (xs 1).toInt; omega, (zl_32 _).2⟩ (zl_32 _) (zl_32 _) (zl_32 _) (zl_32 _) (fun w hw => absurd hw List.not_mem_nil)⟩))
theorem zl_call8 (hk : zi_and (xs 0).toInt 31 = 8) : zl_W 6 xs := by
  by_cases h : (xs 1).toInt < 0 ∨ 10 ≤ (xs 1).toInt
  · exact zl_run0 zr_a1 (zl_r (zl_outi hk rfl h))
  · exact zl_run0 zr_8 ⟨_, .head _, zl_5 hk rfl ⟨by show 0 ≤ (xs 1).toInt; omega, by show (xs 1).toInt ≤ 9; omega⟩ (zl_32 _) (zl_32 _) (zl_32 _) (zl_32 _) (fun w hw => absurd hw List.not_mem_nil)⟩
theorem zl_call10 (hk : zi_and (xs 0).toInt 31 = 10) : zl_W 6 xs := by
  by_cases h : (xs 1).toInt < 0 ∨ 5 ≤ (xs 1).toInt
  · exact zl_run0 zr_10 (zl_l (zl_outi hk rfl h))
  · exact zl_run0 zr_10 (zl_r (zl_1sti hk rfl (by omega) (by omega)))
theorem zl_call11 (hk : zi_and (xs 0).toInt 31 = 11) : zl_W 6 xs := by
  by_cases h : (xs 1).toInt < 0 ∨ 7 ≤ (xs 1).toInt
  · exact zl_run0 zr_11 (zl_l (zl_outi hk rfl h))
  · exact zl_run0 zr_11 (zl_r (zl_1sti hk rfl (by omega) (by omega)))
theorem zl_call17 (hk : zi_and (xs 0).toInt 31 = 17) : zl_W 6 xs := by
  by_cases h : (xs 1).toInt < 0 ∨ 7 ≤ (xs 1).toInt
  · exact zl_run0 zr_17 (zl_l (zl_outi hk rfl h))
  · exact zl_run0 zr_17 (zl_r (zl_1sti hk rfl (by omega) (by omega)))
theorem zl_call14 (hk : zi_and (xs 0).toInt 31 = 14) : zl_W 6 xs := by
  exact zl_run0 zr_b1 (zl_l (zl_l (zl_l (zl_r (zl_alli hk rfl)))))
theorem zl_call16 (hk : zi_and (xs 0).toInt 31 = 16) : zl_W 6 xs := by
  exact zl_run0 zr_b1 (zl_l (zl_l (zl_r (zl_alli hk rfl))))
theorem zl_call18 (hk : zi_and (xs 0).toInt 31 = 18) : zl_W 6 xs := by
  exact zl_run0 zr_b1 (zl_l (zl_r (zl_alli hk rfl)))
theorem zl_call19 (hk : zi_and (xs 0).toInt 31 = 19) : zl_W 6 xs := by
  exact zl_run0 zr_b1 (zl_r (zl_alli hk rfl))
theorem zl_call12 (hk : zi_and (xs 0).toInt 31 = 12) : zl_W 6 xs := by
  by_cases h : (xs 3).toInt = (xs 4).toInt
  · exact zl_run0 zr_b1 (zl_l (zl_l (zl_l (zl_l ⟨_, .tail _ (.head _), zl_5 hk rfl (zl_32 _) (zl_32 _) (zl_32 _) (zl_32 _) (zl_32 _) (fun w hw => by
        cases hw with
        | head => exact h
        | tail _ hw => exact absurd hw List.not_mem_nil)⟩))))
  · exact zl_run0 zr_b1 (zl_l (zl_l (zl_l (zl_l ⟨_, .head _, zl_5 hk rfl (zl_32 _) (zl_32 _) (zl_32 _) (zl_32 _) (zl_32 _) (fun w hw => by
        cases hw with
        | head => exact h
        | tail _ hw => exact absurd hw List.not_mem_nil)⟩))))
theorem zl_call21 (hk : zi_and (xs 0).toInt 31 = 21) : zl_W 6 xs := by
  exact zl_run0 zr_b2 (zl_l (zl_l (zl_l (zl_l (zl_l (zl_l (zl_l (zl_l (zl_l (zl_l (zl_alli hk rfl)))))))))))
theorem zl_call22 (hk : zi_and (xs 0).toInt 31 = 22) : zl_W 6 xs := by
  exact zl_run0 zr_b2 (zl_l (zl_l (zl_l (zl_l (zl_l (zl_l (zl_l (zl_l (zl_l (zl_r (zl_alli hk rfl)))))))))))
theorem zl_call23 (hk : zi_and (xs 0).toInt 31 = 23) : zl_W 6 xs := by
  exact zl_run0 zr_b2 (zl_l (zl_l (zl_l (zl_l (zl_l (zl_l (zl_l (zl_l (zl_r (zl_alli hk rfl))))))))))
theorem zl_call24 (hk : zi_and (xs 0).toInt 31 = 24) : zl_W 6 xs := by
  exact zl_run0 zr_b2 (zl_l (zl_l (zl_l (zl_l (zl_l (zl_l (zl_l (zl_r (zl_alli hk rfl)))))))))
theorem zl_call25 (hk : zi_and (xs 0).toInt 31 = 25) : zl_W 6 xs := by
  exact zl_run0 zr_b2 (zl_l (zl_l (zl_l (zl_l (zl_l (zl_l (zl_r (zl_alli hk rfl))))))))
theorem zl_call26 (hk : zi_and (xs 0).toInt 31 = 26) : zl_W 6 xs := by
  exact zl_run0 zr_b2 (zl_l (zl_l (zl_l (zl_l (zl_l (zl_r (zl_alli hk rfl)))))))
theorem zl_call28 (hk : zi_and (xs 0).toInt 31 = 28) : zl_W 6 xs := by
  exact zl_run0 zr_b2 (zl_l (zl_l (zl_l (zl_r (zl_alli hk rfl)))))
theorem zl_call29 (hk : zi_and (xs 0).toInt 31 = 29) : zl_W 6 xs := by
  exact zl_run0 zr_b2 (zl_l (zl_l (zl_r (zl_alli hk rfl))))
theorem zl_call30 (hk : zi_and (xs 0).toInt 31 = 30) : zl_W 6 xs := by
  exact zl_run0 zr_b2 (zl_l (zl_r (zl_alli hk rfl)))
theorem zl_call31 (hk : zi_and (xs 0).toInt 31 = 31) : zl_W 6 xs := by
  exact zl_run0 zr_b2 (zl_r (zl_alli hk rfl))
theorem zl_call15 (hk : zi_and (xs 0).toInt 31 = 15) : zl_W 6 xs := by
  exact zl_runm (i := 2) zr_b2 (zl_l (zl_l (zl_l (zl_l (zl_r (zl_mdi (p1 := zy_a) (p2 := zy_a) (p3 := zy_a) (p4 := zy_a) (p5 := zy_a) (by decide) hk rfl (zl_32 _) (zl_32 _) (zl_32 _) (zl_32 _) (zl_32 _)))))))
theorem zl_call27 (hk : zi_and (xs 0).toInt 31 = 27) : zl_W 6 xs := by
  exact zl_run0 zr_27 (zl_alli hk rfl)
theorem zl_call5 (hk : zi_and (xs 0).toInt 31 = 5) : zl_W 6 xs := by
  by_cases hb : ((xs 1).toInt < 0 ∨ 10 ≤ (xs 1).toInt) ∨ ((xs 2).toInt < 0 ∨ 25 ≤ (xs 2).toInt)
  · exact zl_run0 zr_5 (zl_out2i hk rfl hb)
  · have h10 : (xs 1).toInt = 0 ∨ (xs 1).toInt = 1 ∨ (xs 1).toInt = 2 ∨ (xs 1).toInt = 3 ∨ (xs 1).toInt = 4 ∨ (xs 1).toInt = 5 ∨ (xs 1).toInt = 6 ∨ (xs 1).toInt = 7 ∨ (xs 1).toInt = 8 ∨ (xs 1).toInt = 9 := by omega
    rcases h10 with h | h | h | h | h | h | h | h | h | h
    · exact zl_runm (i := 3) zr_5_0 (zl_seti hk h (by omega) (by omega))
    · exact zl_runm (i := 3) zr_5_1 (zl_seti hk h (by omega) (by omega))
    · exact zl_runm (i := 3) zr_5_2 (zl_seti hk h (by omega) (by omega))
    · exact zl_runm (i := 3) zr_5_3 (zl_seti hk h (by omega) (by omega))
    · exact zl_runm (i := 3) zr_5_4 (zl_seti hk h (by omega) (by omega))
    · exact zl_runm (i := 3) zr_5_5 (zl_seti hk h (by omega) (by omega))
    · exact zl_runm (i := 3) zr_5_6 (zl_seti hk h (by omega) (by omega))
    · exact zl_runm (i := 3) zr_5_7 (zl_seti hk h (by omega) (by omega))
    · exact zl_runm (i := 3) zr_5_8 (zl_seti hk h (by omega) (by omega))
    · exact zl_runm (i := 3) zr_5_9 (zl_seti hk h (by omega) (by omega))
theorem zl_call6 (hk : zi_and (xs 0).toInt 31 = 6) : zl_W 6 xs := by
  by_cases hb : ((xs 1).toInt < 0 ∨ 10 ≤ (xs 1).toInt) ∨ ((xs 2).toInt < 0 ∨ 25 ≤ (xs 2).toInt)
  · exact zl_run0 zr_6 (zl_out2i hk rfl hb)
  · have h10 : (xs 1).toInt = 0 ∨ (xs 1).toInt = 1 ∨ (xs 1).toInt = 2 ∨ (xs 1).toInt = 3 ∨ (xs 1).toInt = 4 ∨ (xs 1).toInt = 5 ∨ (xs 1).toInt = 6 ∨ (xs 1).toInt = 7 ∨ (xs 1).toInt = 8 ∨ (xs 1).toInt = 9 := by omega
    rcases h10 with h | h | h | h | h | h | h | h | h | h
    · exact zl_run0 zr_6_0 (zl_2ndi hk rfl ⟨Int.le_of_eq h.symm, Int.le_of_eq h⟩ (by omega) (by omega))
    · exact zl_run0 zr_6_1 (zl_2ndi hk rfl ⟨Int.le_of_eq h.symm, Int.le_of_eq h⟩ (by omega) (by omega))
    · exact zl_run0 zr_6_2 (zl_2ndi hk rfl ⟨Int.le_of_eq h.symm, Int.le_of_eq h⟩ (by omega) (by omega))
    · exact zl_run0 zr_6_3 (zl_2ndi hk rfl ⟨Int.le_of_eq h.symm, Int.le_of_eq h⟩ (by omega) (by omega))
    · exact zl_run0 zr_6_4 (zl_2ndi hk rfl ⟨Int.le_of_eq h.symm, Int.le_of_eq h⟩ (by omega) (by omega))
    · exact zl_run0 zr_6_5 (zl_2ndi hk rfl ⟨Int.le_of_eq h.symm, Int.le_of_eq h⟩ (by omega) (by omega))
    · exact zl_run0 zr_6_6 (zl_2ndi hk rfl ⟨Int.le_of_eq h.symm, Int.le_of_eq h⟩ (by omega) (by omega))
    · exact zl_run0 zr_6_7 (zl_2ndi hk rfl ⟨Int.le_of_eq h.symm, Int.le_of_eq h⟩ (by omega) (by omega))
    · exact zl_run0 zr_6_8 (zl_2ndi hk rfl ⟨Int.le_of_eq h.symm, Int.le_of_eq h⟩ (by omega) (by omega))
    · exact zl_run0 zr_6_9 (zl_2ndi hk rfl ⟨Int.le_of_eq h.symm, Int.le_of_eq h⟩ (by omega) (by omega))
theorem zl_call13 (hk : zi_and (xs 0).toInt 31 = 13) : zl_W 6 xs := by
  by_cases h1 : (xs 3).toInt < 0
  · exact zl_run0 zr_13 ⟨_, .head _, zl_5 hk rfl (zl_32 _) (zl_32 _) ⟨(zl_32 _).1, by show (xs 3).toInt ≤ -1; omega⟩ (zl_32 _) (zl_32 _) (fun w hw => absurd hw List.not_mem_nil)⟩
  by_cases h2 : 10 ≤ (xs 3).toInt
  · exact zl_run0 zr_13 ⟨_, .tail _ (.head _), zl_5 hk rfl (zl_32 _) (zl_32 _) ⟨h2, (zl_32 _).2⟩ (zl_32 _) (zl_32 _) (fun w hw => absurd hw List.not_mem_nil)⟩
  have hr : (0 : Int) ≤ (xs 3).toInt ∧ (xs 3).toInt ≤ 9 := by omega
  by_cases h3 : (xs 4).toInt < 0
  · exact zl_run0 zr_13 ⟨_, .tail _ (.tail _ (.head _)), zl_5 hk rfl (zl_32 _) (zl_32 _) hr ⟨(zl_32 _).1, by show (xs 4).toInt ≤ -1; omega⟩ (zl_32 _) (fun w hw => absurd hw List.not_mem_nil)⟩
  by_cases h4 : 10 ≤ (xs 4).toInt
  · exact zl_run0 zr_13 ⟨_, .tail _ (.tail _ (.tail _ (.head _))), zl_5 hk rfl (zl_32 _) (zl_32 _) hr ⟨h4, (zl_32 _).2⟩ (zl_32 _) (fun w hw => absurd hw List.not_mem_nil)⟩
  by_cases h : (xs 3).toInt = (xs 4).toInt
  · exact zl_run0 zr_13 ⟨_, .tail _ (.tail _ (.tail _ (.tail _ (.head _)))), zl_5 hk rfl (zl_32 _) (zl_32 _) hr (by show (0 : Int) ≤ (xs 4).toInt ∧ (xs 4).toInt ≤ 9; omega) (zl_32 _) (fun w hw => by
        cases hw with
        | head => exact h
        | tail _ hw => exact absurd hw List.not_mem_nil)⟩
  by_cases hlt : (xs 4).toInt < (xs 3).toInt
  · have h10 : (xs 3).toInt = 0 ∨ (xs 3).toInt = 1 ∨ (xs 3).toInt = 2 ∨ (xs 3).toInt = 3 ∨ (xs 3).toInt = 4 ∨ (xs 3).toInt = 5 ∨ (xs 3).toInt = 6 ∨ (xs 3).toInt = 7 ∨ (xs 3).toInt = 8 ∨ (xs 3).toInt = 9 := by omega
    clear h
    rcases h10 with h | h | h | h | h | h | h | h | h | h
    · exact zl_run0 zr_13_0 (zl_l (zl_bzti hk h (by omega) (by omega)))
    · exact zl_run0 zr_13_1 (zl_l (zl_bzti hk h (by omega) (by omega)))
    · exact zl_run0 zr_13_2 (zl_l (zl_bzti hk h (by omega) (by omega)))
    · exact zl_run0 zr_13_3 (zl_l (zl_bzti hk h (by omega) (by omega)))
    · exact zl_run0 zr_13_4 (zl_l (zl_bzti hk h (by omega) (by omega)))
    · exact zl_run0 zr_13_5 (zl_l (zl_bzti hk h (by omega) (by omega)))
    · exact zl_run0 zr_13_6 (zl_l (zl_bzti hk h (by omega) (by omega)))
    · exact zl_run0 zr_13_7 (zl_l (zl_bzti hk h (by omega) (by omega)))
    · exact zl_run0 zr_13_8 (zl_l (zl_bzti hk h (by omega) (by omega)))
    · exact zl_run0 zr_13_9 (zl_l (zl_bzti hk h (by omega) (by omega)))
  · have h10 : (xs 3).toInt = 0 ∨ (xs 3).toInt = 1 ∨ (xs 3).toInt = 2 ∨ (xs 3).toInt = 3 ∨ (xs 3).toInt = 4 ∨ (xs 3).toInt = 5 ∨ (xs 3).toInt = 6 ∨ (xs 3).toInt = 7 ∨ (xs 3).toInt = 8 ∨ (xs 3).toInt = 9 := by omega
    have hne := h
    clear h
    rcases h10 with h | h | h | h | h | h | h | h | h | h
    · exact zl_run0 zr_13_0 (zl_r (zl_bzti hk h (by omega) (by omega)))
    · exact zl_run0 zr_13_1 (zl_r (zl_bzti hk h (by omega) (by omega)))
    · exact zl_run0 zr_13_2 (zl_r (zl_bzti hk h (by omega) (by omega)))
    · exact zl_run0 zr_13_3 (zl_r (zl_bzti hk h (by omega) (by omega)))
    · exact zl_run0 zr_13_4 (zl_r (zl_bzti hk h (by omega) (by omega)))
    · exact zl_run0 zr_13_5 (zl_r (zl_bzti hk h (by omega) (by omega)))
    · exact zl_run0 zr_13_6 (zl_r (zl_bzti hk h (by omega) (by omega)))
    · exact zl_run0 zr_13_7 (zl_r (zl_bzti hk h (by omega) (by omega)))
    · exact zl_run0 zr_13_8 (zl_r (zl_bzti hk h (by omega) (by omega)))
    · exact absurd h (by omega)
theorem zl_call20 (hk : zi_and (xs 0).toInt 31 = 20) : zl_W 6 xs := by
  by_cases h1 : (xs 2).toInt < 0
  · exact zl_run0 zr_20 ⟨_, .head _, zl_5 hk rfl (zl_32 _) ⟨(zl_32 _).1, by show (xs 2).toInt ≤ -1; omega⟩ (zl_32 _) (zl_32 _) (zl_32 _) (fun w hw => absurd hw List.not_mem_nil)⟩
  by_cases h2 : 97 ≤ (xs 2).toInt
  · exact zl_run0 zr_20 ⟨_, .tail _ (.head _), zl_5 hk rfl (zl_32 _) ⟨h2, (zl_32 _).2⟩ (zl_32 _) (zl_32 _) (zl_32 _) (fun w hw => absurd hw List.not_mem_nil)⟩
  by_cases h3 : (xs 2).toInt < 25
  · exact zl_run0 zr_20_0 (zl_2ndi hk rfl (zl_32 _) (by omega) (by omega))
  by_cases h4 : (xs 2).toInt < 50
  · exact zl_run0 zr_20_25 (zl_2ndi hk rfl (zl_32 _) (by omega) (by omega))
  by_cases h5 : (xs 2).toInt < 75
  · exact zl_run0 zr_20_50 (zl_2ndi hk rfl (zl_32 _) (by omega) (by omega))
  · exact zl_run0 zr_20_75 (zl_2ndi hk rfl (zl_32 _) (by omega) (by omega))
theorem zl_call0 (hk : zi_and (xs 0).toInt 31 = 0) : zl_W 6 xs := by
  by_cases h1 : (xs 1).toInt < 2
  · exact zl_run0 zr_0 ⟨_, .head _, zl_5 hk rfl ⟨(zl_32 _).1, by show (xs 1).toInt ≤ 1; omega⟩ (zl_32 _) (zl_32 _) (zl_32 _) (zl_32 _) (fun w hw => absurd hw List.not_mem_nil)⟩
  by_cases h2 : 98 ≤ (xs 1).toInt
  · exact zl_run0 zr_0 ⟨_, .tail _ (.head _), zl_5 hk rfl ⟨h2, (zl_32 _).2⟩ (zl_32 _) (zl_32 _) (zl_32 _) (zl_32 _) (fun w hw => absurd hw List.not_mem_nil)⟩
  by_cases g2 : (xs 1).toInt < 17
  · exact zl_run0 zr_0_2 (zl_1sti hk rfl (by omega) (by omega))
  by_cases g17 : (xs 1).toInt < 31
  · exact zl_run0 zr_0_17 (zl_1sti hk rfl (by omega) (by omega))
  by_cases g31 : (xs 1).toInt < 43
  · exact zl_run0 zr_0_31 (zl_1sti hk rfl (by omega) (by omega))
  by_cases g43 : (xs 1).toInt < 57
  · exact zl_run0 zr_0_43 (zl_1sti hk rfl (by omega) (by omega))
  by_cases g57 : (xs 1).toInt < 63
  · exact zl_run0 zr_0_57 (zl_1sti hk rfl (by omega) (by omega))
  by_cases g63 : (xs 1).toInt < 73
  · exact zl_run0 zr_0_63 (zl_1sti hk rfl (by omega) (by omega))
  by_cases g73 : (xs 1).toInt < 81
  · exact zl_run0 zr_0_73 (zl_1sti hk rfl (by omega) (by omega))
  by_cases g81 : (xs 1).toInt < 87
  · exact zl_run0 zr_0_81 (zl_1sti hk rfl (by omega) (by omega))
  by_cases g87 : (xs 1).toInt < 93
  · exact zl_run0 zr_0_87 (zl_1sti hk rfl (by omega) (by omega))
  exact zl_run0 zr_0_93 (zl_1sti hk rfl (by omega) (by omega))
theorem zl_sixs : zl_W 6 xs := by
  have h := zl_and31 (xs 0)
  have h32 : zi_and (xs 0).toInt 31 = 0 ∨ zi_and (xs 0).toInt 31 = 1 ∨ zi_and (xs 0).toInt 31 = 2 ∨ zi_and (xs 0).toInt 31 = 3 ∨ zi_and (xs 0).toInt 31 = 4 ∨ zi_and (xs 0).toInt 31 = 5 ∨ zi_and (xs 0).toInt 31 = 6 ∨ zi_and (xs 0).toInt 31 = 7 ∨ zi_and (xs 0).toInt 31 = 8 ∨ zi_and (xs 0).toInt 31 = 9 ∨ zi_and (xs 0).toInt 31 = 10 ∨ zi_and (xs 0).toInt 31 = 11 ∨ zi_and (xs 0).toInt 31 = 12 ∨ zi_and (xs 0).toInt 31 = 13 ∨ zi_and (xs 0).toInt 31 = 14 ∨ zi_and (xs 0).toInt 31 = 15 ∨ zi_and (xs 0).toInt 31 = 16 ∨ zi_and (xs 0).toInt 31 = 17 ∨ zi_and (xs 0).toInt 31 = 18 ∨ zi_and (xs 0).toInt 31 = 19 ∨ zi_and (xs 0).toInt 31 = 20 ∨ zi_and (xs 0).toInt 31 = 21 ∨ zi_and (xs 0).toInt 31 = 22 ∨ zi_and (xs 0).toInt 31 = 23 ∨ zi_and (xs 0).toInt 31 = 24 ∨ zi_and (xs 0).toInt 31 = 25 ∨ zi_and (xs 0).toInt 31 = 26 ∨ zi_and (xs 0).toInt 31 = 27 ∨ zi_and (xs 0).toInt 31 = 28 ∨ zi_and (xs 0).toInt 31 = 29 ∨ zi_and (xs 0).toInt 31 = 30 ∨ zi_and (xs 0).toInt 31 = 31 := by omega
  rcases h32 with hk | hk | hk | hk | hk | hk | hk | hk | hk | hk | hk | hk | hk | hk | hk | hk | hk | hk | hk | hk | hk | hk | hk | hk | hk | hk | hk | hk | hk | hk | hk | hk
  · exact zl_call0 hk
  · exact zl_call1 hk
  · exact zl_call2 hk
  · exact zl_call3 hk
  · exact zl_call4 hk
  · exact zl_call5 hk
  · exact zl_call6 hk
  · exact zl_call7 hk
  · exact zl_call8 hk
  · exact zl_call9 hk
  · exact zl_call10 hk
  · exact zl_call11 hk
  · exact zl_call12 hk
  · exact zl_call13 hk
  · exact zl_call14 hk
  · exact zl_call15 hk
  · exact zl_call16 hk
  · exact zl_call17 hk
  · exact zl_call18 hk
  · exact zl_call19 hk
  · exact zl_call20 hk
  · exact zl_call21 hk
  · exact zl_call22 hk
  · exact zl_call23 hk
  · exact zl_call24 hk
  · exact zl_call25 hk
  · exact zl_call26 hk
  · exact zl_call27 hk
  · exact zl_call28 hk
  · exact zl_call29 hk
  · exact zl_call30 hk
  · exact zl_call31 hk
end
/-- a shorter script: no call -/
def zl_tok5 (L : Nat) : List (List Int) := [(List.range L).map (fun i => zy_mkt i 0 1 0)]
noncomputable def zl_go (L : Nat) : Bool := zq_exec (zl_tok5 L) [([], [])] 100000000 100 ([], []) zk_law 0 ((2, -2) :: List.replicate 8 (9, 0)) [] [] zy_fin
theorem zl_tokm (L : Nat) (hL : L < 8) (xs : Nat → Int32) : (zl_tok5 L).map (fun l => List.map (zy_f (fun i => (xs i).toInt)) l) = [zx_script L xs] := by
  unfold zl_tok5 zx_script
  rw [List.map_cons, List.map_nil, List.map_map]
  congr 1
  exact List.map_congr_left (fun i hi => zl_tok (s := fun i => (xs i).toInt) (by have := List.mem_range.mp hi; omega))
theorem zl_shorti {L : Nat} (hL : L < 8) (hr : zl_go L = true) (xs : Nat → Int32) : zl_W L xs := by
  have h32 : ∀ i, -2147483648 ≤ (fun i => (xs i).toInt) i ∧ (fun i => (xs i).toInt) i ≤ 2147483647 := fun i => zl_32 _
  obtain ⟨f, r, e', -, h2, h3⟩ := zq_sound (s := fun i => (xs i).toInt) (E := zl_tok5 L) (hs := [([], [])]) h32 ⟨_, .head _, zl_mod0 h32⟩ 100000000 100 ([], []) zk_law 0 _ [] [] zy_fin (zl_mod0 h32) hr
  obtain ⟨hh, e1, e2, e3⟩ := zl_fin (s := fun i => (xs i).toInt) h2
  refine ⟨f, hh, ?_, e2, e3⟩
  rw [zl_tokm L hL, e1] at h3
  rw [← zl_law0 (fun i => (xs i).toInt)]
  exact h3

theorem zr_L0 : zl_go 0 = true := by decide +kernel
theorem zr_L1 : zl_go 1 = true := by decide +kernel
theorem zr_L2 : zl_go 2 = true := by decide +kernel
theorem zr_L3 : zl_go 3 = true := by decide +kernel
theorem zr_L4 : zl_go 4 = true := by decide +kernel
theorem zr_L5 : zl_go 5 = true := by decide +kernel
theorem zl_each {L : Nat} (hL : L ≤ 6) (xs : Nat → Int32) : zl_W L xs := by
  have h : L = 0 ∨ L = 1 ∨ L = 2 ∨ L = 3 ∨ L = 4 ∨ L = 5 ∨ L = 6 := by omega
  rcases h with h | h | h | h | h | h | h <;> subst h
  · exact zl_shorti (by decide) zr_L0 xs
  · exact zl_shorti (by decide) zr_L1 xs
  · exact zl_shorti (by decide) zr_L2 xs
  · exact zl_shorti (by decide) zr_L3 xs
  · exact zl_shorti (by decide) zr_L4 xs
  · exact zl_shorti (by decide) zr_L5 xs
  · exact zl_sixs
