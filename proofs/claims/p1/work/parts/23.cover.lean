/-! Every script of six numbers is in one of the spans. -/
theorem zl_rem7 (x : Int32) : zi_rem x.toInt 7 = x.toInt.tmod 7 := by
  have h0 := zl_32 x
  have h7 : (Int32.ofInt 7).toInt = 7 := by decide
  have hx : Int32.ofInt x.toInt = x := Int32.ofInt_toInt x
  have hd : (x / Int32.ofInt 7).toInt = x.toInt.tdiv 7 := by
    rw [Int32.toInt_div_of_ne_right _ _ (by decide), h7]
  have hq := Int.tmod_def x.toInt 7
  have b1 : -2147483648 ≤ x.toInt.tdiv 7 * 7 ∧ x.toInt.tdiv 7 * 7 ≤ 2147483647 := by
    rcases Int.le_total 0 x.toInt with h | h
    · rw [Int.tdiv_eq_ediv_of_nonneg h]
      omega
    · have e : x.toInt.tdiv 7 = -((-x.toInt) / 7) := by
        rw [← Int.tdiv_eq_ediv_of_nonneg (show 0 ≤ -x.toInt by omega), Int.neg_tdiv]
        omega
      rw [e]
      omega
  have hm : (x / Int32.ofInt 7 * Int32.ofInt 7).toInt = x.toInt.tdiv 7 * 7 := by
    rw [Int32.toInt_mul, hd, h7]
    exact Int.bmod_eq_of_le (by omega) (by omega)
  have hs : -2147483648 ≤ x.toInt - x.toInt.tdiv 7 * 7 ∧ x.toInt - x.toInt.tdiv 7 * 7 ≤ 2147483647 := by
    rcases Int.le_total 0 x.toInt with h | h
    · rw [Int.tdiv_eq_ediv_of_nonneg h]
      omega
    · have e : x.toInt.tdiv 7 = -((-x.toInt) / 7) := by
        rw [← Int.tdiv_eq_ediv_of_nonneg (show 0 ≤ -x.toInt by omega), Int.neg_tdiv]
        omega
      rw [e]
      omega
  unfold zi_rem
  rw [hx, Int32.toInt_sub, hm, Int.bmod_eq_of_le (by omega) (by omega), hq, Int.mul_comm]
theorem zl_tm7 (y : Int) : -6 ≤ y.tmod 7 ∧ y.tmod 7 ≤ 6 ∧ (0 ≤ y → 0 ≤ y.tmod 7) ∧ (y ≤ 0 → y.tmod 7 ≤ 0) := by
  have hq := Int.tmod_def y 7
  rcases Int.le_total 0 y with h | h
  · rw [Int.tdiv_eq_ediv_of_nonneg h] at hq
    omega
  · have e : y.tdiv 7 = -((-y) / 7) := by
      rw [← Int.tdiv_eq_ediv_of_nonneg (show 0 ≤ -y by omega), Int.neg_tdiv]
      omega
    rw [e] at hq
    omega
theorem zl_xor7 (x : Int32) : (zi_xor x.toInt 7 < 0 ↔ x.toInt < 0) ∧ -2147483648 ≤ zi_xor x.toInt 7 ∧ zi_xor x.toInt 7 ≤ 2147483647 := by
  have hx : Int32.ofInt x.toInt = x := Int32.ofInt_toInt x
  unfold zi_xor
  rw [hx]
  refine ⟨?_, zl_32 _⟩
  have h1 : decide ((x ^^^ Int32.ofInt 7).toInt < 0) = decide (x.toInt < 0) := by
    rw [← Int32.toInt_toBitVec, ← Int32.toInt_toBitVec x, ← BitVec.msb_eq_toInt, ← BitVec.msb_eq_toInt, Int32.toBitVec_xor, BitVec.msb_xor]
    have h7 : (Int32.ofInt 7).toBitVec.msb = false := by decide
    rw [h7, Bool.xor_false]
  exact decide_eq_decide.mp h1
theorem zl_and31 (x : Int32) : 0 ≤ zi_and x.toInt 31 ∧ zi_and x.toInt 31 ≤ 31 := by
  have hx : Int32.ofInt x.toInt = x := Int32.ofInt_toInt x
  unfold zi_and
  rw [hx]
  obtain ⟨j, hj, e⟩ := pk_andE x (m := Int32.ofInt 31) 5 (by decide)
  rw [e, nI_toInt (by omega)]
  omega
section
variable {xs : Nat → Int32} {a b : Int} {k : Int}
theorem zl_l {A B : List zy_E} {P : zy_E → Prop} (h : ∃ e ∈ A, P e) : ∃ e ∈ A ++ B, P e := by
  obtain ⟨e, h1, h2⟩ := h
  exact ⟨e, List.mem_append_left _ h1, h2⟩
theorem zl_r {A B : List zy_E} {P : zy_E → Prop} (h : ∃ e ∈ B, P e) : ∃ e ∈ A ++ B, P e := by
  obtain ⟨e, h1, h2⟩ := h
  exact ⟨e, List.mem_append_right _ h1, h2⟩
theorem zl_zz : -2147483648 ≤ (0 : Int) ∧ (0 : Int) ≤ 2147483647 := by decide
/-- with nothing in places 6 and 7 -/
theorem zl_run0 {hs : List zy_E} (hr : zq_go hs = true) (hc : ∃ e ∈ hs, zy_mod (zl_s xs 0 0) e) : zl_W 6 xs := zl_run hr zl_zz zl_zz hc
theorem zl_5 {p1 p2 p3 p4 p5 : Int × Int} {q : List (Nat × Nat × Int × Int)} (hk : zi_and (xs 0).toInt 31 = k) (hn : zy_nt k = true) (h1 : p1.1 ≤ (xs 1).toInt ∧ (xs 1).toInt ≤ p1.2) (h2 : p2.1 ≤ (xs 2).toInt ∧ (xs 2).toInt ≤ p2.2) (h3 : p3.1 ≤ (xs 3).toInt ∧ (xs 3).toInt ≤ p3.2) (h4 : p4.1 ≤ (xs 4).toInt ∧ (xs 4).toInt ≤ p4.2) (h5 : p5.1 ≤ (xs 5).toInt ∧ (xs 5).toInt ≤ p5.2) (hq : ∀ w ∈ q, zy_fact (zl_s xs 0 0) w) : zy_mod (zl_s xs 0 0) (zy_op k [p1, p2, p3, p4, p5] q) :=
  zl_op (zl_s32 zl_zz zl_zz) hk hn ⟨h1, h2, h3, h4, h5, trivial⟩ hq
theorem zl_alli (hk : zi_and (xs 0).toInt 31 = k) (hn : zy_nt k = true) : ∃ e ∈ zy_all k, zy_mod (zl_s xs 0 0) e :=
  ⟨_, .head _, zl_5 hk hn (zl_32 _) (zl_32 _) (zl_32 _) (zl_32 _) (zl_32 _) (fun w hw => absurd hw List.not_mem_nil)⟩
theorem zl_1sti {lo n : Nat} (hk : zi_and (xs 0).toInt 31 = k) (hn : zy_nt k = true) (h1 : (lo : Int) ≤ (xs 1).toInt) (h2 : (xs 1).toInt < (lo : Int) + (n : Int)) : ∃ e ∈ zy_1st k lo n, zy_mod (zl_s xs 0 0) e := by
  have e : (xs 1).toInt = Int.ofNat (lo + ((xs 1).toInt - lo).toNat) := by
    show (xs 1).toInt = ((lo + ((xs 1).toInt - lo).toNat : Nat) : Int)
    omega
  exact ⟨_, List.mem_map.mpr ⟨((xs 1).toInt - lo).toNat, List.mem_range.mpr (by omega), rfl⟩, zl_5 hk hn ⟨Int.le_of_eq e.symm, Int.le_of_eq e⟩ (zl_32 _) (zl_32 _) (zl_32 _) (zl_32 _) (fun w hw => absurd hw List.not_mem_nil)⟩
theorem zl_outi {n : Int} (hk : zi_and (xs 0).toInt 31 = k) (hn : zy_nt k = true) (h1 : (xs 1).toInt < 0 ∨ n ≤ (xs 1).toInt) : ∃ e ∈ zy_out k n, zy_mod (zl_s xs 0 0) e := by
  rcases h1 with h1 | h1
  · exact ⟨_, .head _, zl_5 hk hn ⟨(zl_32 _).1, by show (xs 1).toInt ≤ -1; omega⟩ (zl_32 _) (zl_32 _) (zl_32 _) (zl_32 _) (fun w hw => absurd hw List.not_mem_nil)⟩
  · exact ⟨_, .tail _ (.head _), zl_5 hk hn ⟨h1, (zl_32 _).2⟩ (zl_32 _) (zl_32 _) (zl_32 _) (zl_32 _) (fun w hw => absurd hw List.not_mem_nil)⟩
theorem zl_out2i {n : Int} (hk : zi_and (xs 0).toInt 31 = k) (hn : zy_nt k = true) (h1 : ((xs 1).toInt < 0 ∨ 10 ≤ (xs 1).toInt) ∨ ((xs 2).toInt < 0 ∨ n ≤ (xs 2).toInt)) : ∃ e ∈ zy_out2 k n, zy_mod (zl_s xs 0 0) e := by
  by_cases ha : (xs 1).toInt < 0
  · exact ⟨_, .head _, zl_5 hk hn ⟨(zl_32 _).1, by show (xs 1).toInt ≤ -1; omega⟩ (zl_32 _) (zl_32 _) (zl_32 _) (zl_32 _) (fun w hw => absurd hw List.not_mem_nil)⟩
  · by_cases hb : 10 ≤ (xs 1).toInt
    · exact ⟨_, .tail _ (.head _), zl_5 hk hn ⟨hb, (zl_32 _).2⟩ (zl_32 _) (zl_32 _) (zl_32 _) (zl_32 _) (fun w hw => absurd hw List.not_mem_nil)⟩
    · have hr : (0 : Int) ≤ (xs 1).toInt ∧ (xs 1).toInt ≤ 9 := by omega
      by_cases hc : (xs 2).toInt < 0
      · exact ⟨_, .tail _ (.tail _ (.head _)), zl_5 hk hn hr ⟨(zl_32 _).1, by show (xs 2).toInt ≤ -1; omega⟩ (zl_32 _) (zl_32 _) (zl_32 _) (fun w hw => absurd hw List.not_mem_nil)⟩
      · exact ⟨_, .tail _ (.tail _ (.tail _ (.head _))), zl_5 hk hn hr ⟨by show n ≤ (xs 2).toInt; omega, (zl_32 _).2⟩ (zl_32 _) (zl_32 _) (zl_32 _) (fun w hw => absurd hw List.not_mem_nil)⟩
theorem zl_2ndi {f : Int × Int} {lo n : Nat} (hk : zi_and (xs 0).toInt 31 = k) (hn : zy_nt k = true) (hf : f.1 ≤ (xs 1).toInt ∧ (xs 1).toInt ≤ f.2) (h1 : (lo : Int) ≤ (xs 2).toInt) (h2 : (xs 2).toInt < (lo : Int) + (n : Int)) : ∃ e ∈ zy_2nd k f lo n, zy_mod (zl_s xs 0 0) e := by
  have e : (xs 2).toInt = Int.ofNat (lo + ((xs 2).toInt - lo).toNat) := by
    show (xs 2).toInt = ((lo + ((xs 2).toInt - lo).toNat : Nat) : Int)
    omega
  exact ⟨_, List.mem_map.mpr ⟨((xs 2).toInt - lo).toNat, List.mem_range.mpr (by omega), rfl⟩, zl_5 hk hn hf ⟨Int.le_of_eq e.symm, Int.le_of_eq e⟩ (zl_32 _) (zl_32 _) (zl_32 _) (fun w hw => absurd hw List.not_mem_nil)⟩
theorem zl_bzti {r t n : Nat} (hk : zi_and (xs 0).toInt 31 = 13) (hf : (xs 3).toInt = (r : Int)) (h1 : (t : Int) ≤ (xs 4).toInt) (h2 : (xs 4).toInt < (t : Int) + (n : Int)) : ∃ e ∈ zy_bzt r t n, zy_mod (zl_s xs 0 0) e := by
  have e : (xs 4).toInt = Int.ofNat (t + ((xs 4).toInt - t).toNat) := by
    show (xs 4).toInt = ((t + ((xs 4).toInt - t).toNat : Nat) : Int)
    omega
  exact ⟨_, List.mem_map.mpr ⟨((xs 4).toInt - t).toNat, List.mem_range.mpr (by omega), rfl⟩, zl_5 hk rfl (zl_32 _) (zl_32 _) ⟨Int.le_of_eq hf.symm, Int.le_of_eq hf⟩ ⟨Int.le_of_eq e.symm, Int.le_of_eq e⟩ (zl_32 _) (fun w hw => absurd hw List.not_mem_nil)⟩
/-- with the remainder by 7 of place i, and its xor with 7, in places 6 and 7 -/
theorem zl_runm {hs : List zy_E} {i : Nat} (hr : zq_go hs = true) (hc : ∃ e ∈ hs, zy_mod (zl_s xs (zi_rem (xs i).toInt 7) (zi_xor (xs i).toInt 7)) e) : zl_W 6 xs := by
  have h1 := zl_tm7 (xs i).toInt
  rw [← zl_rem7] at h1
  exact zl_run hr ⟨by omega, by omega⟩ (zl_xor7 (xs i)).2 hc
theorem zl_mdi {i : Nat} {p1 p2 p3 p4 p5 : Int × Int} (hi : i < 6) (hk : zi_and (xs 0).toInt 31 = k) (hn : zy_nt k = true) (g1 : p1.1 ≤ (xs 1).toInt ∧ (xs 1).toInt ≤ p1.2) (g2 : p2.1 ≤ (xs 2).toInt ∧ (xs 2).toInt ≤ p2.2) (g3 : p3.1 ≤ (xs 3).toInt ∧ (xs 3).toInt ≤ p3.2) (g4 : p4.1 ≤ (xs 4).toInt ∧ (xs 4).toInt ≤ p4.2) (g5 : p5.1 ≤ (xs 5).toInt ∧ (xs 5).toInt ≤ p5.2) : ∃ e ∈ zy_md k i [p1, p2, p3, p4, p5], zy_mod (zl_s xs (zi_rem (xs i).toInt 7) (zi_xor (xs i).toInt 7)) e := by
  have h1 := zl_tm7 (xs i).toInt
  rw [← zl_rem7] at h1
  have h2 := zl_xor7 (xs i)
  have h32 := zl_s32 (xs := xs) (a := zi_rem (xs i).toInt 7) (b := zi_xor (xs i).toInt 7) ⟨by omega, by omega⟩ h2.2
  have hsi : zl_s xs (zi_rem (xs i).toInt 7) (zi_xor (xs i).toInt 7) i = (xs i).toInt := if_pos hi
  generalize hs : zl_s xs (zi_rem (xs i).toInt 7) (zi_xor (xs i).toInt 7) = s at h32 hsi ⊢
  have s0 : s 0 = (xs 0).toInt := by rw [← hs]; rfl
  have s1 : s 1 = (xs 1).toInt := by rw [← hs]; rfl
  have s2 : s 2 = (xs 2).toInt := by rw [← hs]; rfl
  have s3 : s 3 = (xs 3).toInt := by rw [← hs]; rfl
  have s4 : s 4 = (xs 4).toInt := by rw [← hs]; rfl
  have s5 : s 5 = (xs 5).toInt := by rw [← hs]; rfl
  have s6 : s 6 = zi_rem (xs i).toInt 7 := by rw [← hs]; rfl
  have s7 : s 7 = zi_xor (xs i).toInt 7 := by rw [← hs]; rfl
  rw [← s1] at g1
  rw [← s2] at g2
  rw [← s3] at g3
  rw [← s4] at g4
  rw [← s5] at g5
  have f3 : zy_fact s (3, i, 7, zy_mkt 7 0 1 0) := by
    show zi_xor (s i) 7 = zy_f s (zy_mkt 7 0 1 0)
    rw [zl_tok (by decide), s7, hsi]
  have f1 : zy_fact s (1, i, 7, zy_mkt 6 0 1 0) := by
    show zi_rem (s i) 7 = zy_f s (zy_mkt 6 0 1 0)
    rw [zl_tok (by decide), s6, hsi]
  rcases Int.lt_trichotomy (zi_rem (xs i).toInt 7) 0 with hz | hz | hz
  · refine ⟨_, .head _, zl_op h32 (by rw [s0]; exact hk) hn ⟨g1, g2, g3, g4, g5, ⟨?_, ?_⟩, ⟨?_, ?_⟩, trivial⟩ (fun w hw => ?_)⟩
    · show -6 ≤ s 6; omega
    · show s 6 ≤ -1; omega
    · show -2147483648 ≤ s 7; omega
    · show s 7 ≤ -1; omega
    · cases hw with
      | head => exact f1
      | tail _ hw => cases hw with
        | head => exact f3
        | tail _ hw => exact absurd hw List.not_mem_nil
  · refine ⟨_, .tail _ (.head _), zl_op h32 (by rw [s0]; exact hk) hn ⟨g1, g2, g3, g4, g5, ⟨?_, ?_⟩, h32 7, trivial⟩ (fun w hw => ?_)⟩
    · show 0 ≤ s 6; omega
    · show s 6 ≤ 0; omega
    · cases hw with
      | head =>
        show zi_rem (s i) 7 = zy_f s 0
        rw [zy_f0, hsi]
        exact hz
      | tail _ hw => cases hw with
        | head => exact f3
        | tail _ hw => exact absurd hw List.not_mem_nil
  · refine ⟨_, .tail _ (.tail _ (.head _)), zl_op h32 (by rw [s0]; exact hk) hn ⟨g1, g2, g3, g4, g5, ⟨?_, ?_⟩, ⟨?_, ?_⟩, trivial⟩ (fun w hw => ?_)⟩
    · show 1 ≤ s 6; omega
    · show s 6 ≤ 6; omega
    · show 0 ≤ s 7; omega
    · show s 7 ≤ 2147483647; omega
    · cases hw with
      | head => exact f1
      | tail _ hw => cases hw with
        | head => exact f3
        | tail _ hw => exact absurd hw List.not_mem_nil
theorem zl_seti {r lo n : Nat} (hk : zi_and (xs 0).toInt 31 = 5) (hf : (xs 1).toInt = (r : Int)) (h1 : (lo : Int) ≤ (xs 2).toInt) (h2 : (xs 2).toInt < (lo : Int) + (n : Int)) : ∃ e ∈ zy_set r lo n, zy_mod (zl_s xs (zi_rem (xs 3).toInt 7) (zi_xor (xs 3).toInt 7)) e := by
  have e : (xs 2).toInt = Int.ofNat (lo + ((xs 2).toInt - lo).toNat) := by
    show (xs 2).toInt = ((lo + ((xs 2).toInt - lo).toNat : Nat) : Int)
    omega
  obtain ⟨w, w1, w2⟩ := zl_mdi (xs := xs) (i := 3) (p1 := zy_p (Int.ofNat r)) (p2 := zy_p (Int.ofNat (lo + ((xs 2).toInt - lo).toNat))) (p3 := zy_a) (p4 := zy_a) (p5 := zy_a) (by decide) hk rfl ⟨Int.le_of_eq hf.symm, Int.le_of_eq hf⟩ ⟨Int.le_of_eq e.symm, Int.le_of_eq e⟩ (zl_32 _) (zl_32 _) (zl_32 _)
  exact ⟨w, List.mem_flatMap.mpr ⟨((xs 2).toInt - lo).toNat, List.mem_range.mpr (by omega), w1⟩, w2⟩
end
