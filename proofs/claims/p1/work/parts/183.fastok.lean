/-! Each small function does what its instruction does. -/
def zq_g1 (m : zq_M) (G : List zv_V → List zv_V → zv_H → zq_KN → Bool → Bool) : Prop := ∀ E e y ls st h κ z, (∀ pc' ls' st' h', m E e y ls st h = some [(e, .inl (y, pc', ls', st', h'))] → κ pc' ls' st' h' = z) → G ls st h κ z = z
def zq_gc (m : zq_M) (G : List zv_V → List zv_V → zv_H → zq_KC → Bool → Bool) : Prop := ∀ E e y ls st h κ z, (∀ t as pc' ls' st' h', m E e y ls st h = some [(e, .inr (.inl (t, as, (y, pc', ls', st', h'))))] → κ t as pc' ls' st' h' = z) → G ls st h κ z = z
def zq_gr (m : zq_M) (y : Nat) (G : List zv_V → zv_H → zq_KR → Bool → Bool) : Prop := ∀ E e ls st h κ z, (∀ r, m E e y ls st h = some [(e, .inr (.inr r))] → κ r = z) → G st h κ z = z
theorem zq_w_ok {m : zq_M} {G : List zv_V → List zv_V → zv_H → zq_KN → Bool → Bool} (hg : zq_g1 m G) : zq_ok m (zq_w m G) := fun E e y ls st h κ κc κr H hc => hg E e y ls st h κ _ (fun pc' ls' st' h' q => by rw [q]; exact (hc.1 ..).symm)
theorem zq_wc_ok {m : zq_M} {G : List zv_V → List zv_V → zv_H → zq_KC → Bool → Bool} (hg : zq_gc m G) : zq_ok m (zq_wc m G) := fun E e y ls st h κ κc κr H hc => hg E e y ls st h κc _ (fun t as pc' ls' st' h' q => by rw [q]; exact (hc.2.1 ..).symm)
theorem zq_wr_ok {m : zq_M} {y0 : Nat} {G : List zv_V → zv_H → zq_KR → Bool → Bool} (hg : zq_gr m y0 G) : zq_ok m (zq_wr m y0 G) := fun E e y ls st h κ κc κr H hc => by
  show cond (Nat.beq y y0) (G st h κr (H (m E e y ls st h))) (H (m E e y ls st h)) = _
  cases hb : Nat.beq y y0 with
  | false => rfl
  | true =>
    have hy : y = y0 := Nat.eq_of_beq_eq_true hb
    subst hy
    exact hg E e ls st h κr _ (fun r q => by rw [q]; exact (hc.2.2 ..).symm)
theorem zq_slow_ok (m : zq_M) : zq_ok m (zq_slow m) := fun _ _ _ _ _ _ _ _ _ _ _ => rfl
theorem zq_smli {n : Nat} (h : zq_sml n = true) : (n : Int) ≤ 2147483647 := by
  have := Nat.le_of_ble_eq_true h
  omega
theorem zq_smlt {n : Nat} (h : zq_sml n = true) : zy_nt (Int.ofNat n) = true := by
  have h1 := Nat.le_of_ble_eq_true h
  show (!Nat.ble zy_T n) = true
  cases hb : Nat.ble zy_T n with
  | false => rfl
  | true => exact absurd (Nat.le_trans (Nat.le_of_ble_eq_true hb) h1) (by decide)
theorem zq_len_at {h : zv_H} {q : Nat} {β : Type} {z : β} {k : Nat → List Int → β} : zq_cell h q z k = match h[q]? with
    | none => z
    | some (kd, l) => k kd l := by
  unfold zq_cell
  rw [zq_nth_eq]
  cases h[q]? <;> rfl
theorem zh_at_of {h : zv_H} {q : Nat} {c : zv_C} (e : h[q]? = some c) : zh_at h (Int.ofNat q) = some c := (zh_atn h q).trans e
theorem zq_addi (x z : Int) : zq_add x z = x + z := by cases x <;> cases z <;> rfl
theorem zq_muli (x z : Int) : zq_mul x z = x * z := by cases x <;> cases z <;> rfl
theorem zq_subi (x z : Int) : zq_sub x z = x - z := by
  cases x with
  | ofNat n =>
    cases z with
    | ofNat k =>
      show zq_c (Nat.ble k n) (Int.ofNat (Nat.sub n k)) (Int.ofNat n - Int.ofNat k) = _
      cases hb : Nat.ble k n with
      | false => rfl
      | true =>
        have := Nat.le_of_ble_eq_true hb
        show ((n - k : Nat) : Int) = (n : Int) - (k : Int)
        omega
    | negSucc k => rfl
  | negSucc n => cases z <;> rfl
theorem zi_ixn {n len : Nat} (hn : zq_sml n = true) (hl : n < len) : zi_ix (Int.ofNat n) len = some n := by
  have h1 : (Int32.ofInt (Int.ofNat n)).toInt = (n : Int) := zy_toInt ⟨by show -2147483648 ≤ (n : Int); omega, zq_smli hn⟩
  have h2 : ¬ Int32.ofInt (Int.ofNat n) < 0 := by
    rw [Int32.lt_iff_toInt_lt, h1]
    show ¬ (n : Int) < 0
    omega
  have h3 : (Int32.ofInt (Int.ofNat n)).toNatClampNeg = n := by
    show (Int32.ofInt (Int.ofNat n)).toInt.toNat = n
    rw [h1]
    rfl
  unfold zi_ix
  rw [decide_eq_false h2, h3, decide_eq_true hl]
  rfl
theorem zq_eqii {x z : Int} (h : zq_eqi x z = true) : x = z := by
  cases x with
  | ofNat n =>
    cases z with
    | ofNat k => exact congrArg Int.ofNat (Nat.eq_of_beq_eq_true h)
    | negSucc k => cases h
  | negSucc n =>
    cases z with
    | ofNat k => cases h
    | negSucc k => exact congrArg Int.negSucc (Nat.eq_of_beq_eq_true h)
/-- what the writing of one number gives -/
theorem zq_wr1i {h : zv_H} {q kd : Nat} {l : List Int} {n : Nat} {x : Int} {k : zv_H → Bool} {z : Bool} (hc : h[q]? = some (kd, l)) (hk : n < l.length → k (h.set q (kd, l.set n x)) = z) : zq_wr1 h q kd l n x k z = z := by
  unfold zq_wr1
  rw [zq_get_eq]
  cases hl : l[n]? with
  | none => rfl
  | some w =>
    have hlt : n < l.length := (List.getElem?_eq_some_iff.mp hl).1
    refine zq_cif (fun hb => ?_) ?_
    · have hw : w = x := zq_eqii hb
      have h1 := hk hlt
      rw [← hw, zy_set_same hl, zy_set_same hc] at h1
      exact h1
    · rw [zq_set_eq]
      cases hb : Nat.blt n l.length with
      | false => rfl
      | true =>
        show zq_set h q (kd, l.set n x) k z = z
        rw [zq_set_eq]
        cases Nat.blt q h.length with
        | false => rfl
        | true => exact hk hlt
section
variable {pc len a b l' t : Nat} {v : Int} {ins : Instr}
theorem zqg_push {x : Int} (h1 : ∀ ls st, zy_ok ls st ins a b v = true) (h4 : ∀ e S, zy_nrm e ins S = S) (h2 : ∀ E y ls st h, zs_ins E y pc ls st h ins len a b v = zs_nx y (pc + l') ls ((t, x) :: st) h) : zq_g1 (zy_sem pc ins len a b v) (zq_push (pc + l') t x) := by
  intro E e y ls st h κ z hk
  refine zq_cif (fun hb => hk _ _ _ _ (zy_sem_pl (h1 ..) (h2 ..) (fun _ => ?_) (h4 ..))) rfl
  show (zy_nt x && true) = true
  rw [hb]
  rfl
theorem zqg_load (h1 : ∀ ls st, zy_ok ls st ins a b v = true) (hn : zy_new ins a = false) (h4 : ∀ e S, zy_nrm e ins S = S) (h2 : ∀ E y ls st h, zs_ins E y pc ls st h ins len a b v = zs_load y pc l' a t ls st h) : zq_g1 (zy_sem pc ins len a b v) (zq_load (pc + l') a t) := by
  intro E e y ls st h κ z hk
  unfold zq_load
  rw [zq_get_eq]
  cases hl : ls[a]? with
  | none => rfl
  | some w =>
    obtain ⟨t', x⟩ := w
    refine zq_cif (fun hb => hk _ _ _ _ (zy_sem_pl (h1 ..) ((h2 ..).trans ?_) (fun q => by rw [hn] at q; cases q) (h4 ..))) rfl
    have ht : t' = t := Nat.eq_of_beq_eq_true hb
    subst ht
    unfold zs_load
    rw [hl]
    show zo_g (Nat.beq t' t') _ = _
    rw [Nat.beq_refl]
    rfl
theorem zqg_store (h1 : ∀ ls st, zy_ok ls st ins a b v = true) (hn : zy_new ins a = false) (h4 : ∀ e S, zy_nrm e ins S = S) (h2 : ∀ E y ls st h, zs_ins E y pc ls st h ins len a b v = zs_store y pc l' a t ls st h) : zq_g1 (zy_sem pc ins len a b v) (zq_store (pc + l') a t) := by
  intro E e y ls st h κ z hk
  cases st with
  | nil => rfl
  | cons w r =>
    obtain ⟨t', x⟩ := w
    show zq_c (Nat.beq t' t) (zq_put ls a (t, x) (fun ls' => κ (pc + l') ls' r h) z) z = z
    refine zq_cif (fun hb => ?_) rfl
    rw [zq_put_eq]
    cases hg : (Nat.blt a ls.length && zs_pok ls a) with
    | false => rfl
    | true =>
      refine hk _ _ _ _ (zy_sem_pl (h1 ..) ((h2 ..).trans ?_) (fun q => by rw [hn] at q; cases q) (h4 ..))
      have ht : t' = t := Nat.eq_of_beq_eq_true hb
      subst ht
      show cond (Nat.beq t' t') (zo_g (Nat.blt a ls.length && zs_pok ls a) (zs_nx y (pc + l') (ls.set a (t', x)) r h)) none = _
      rw [Nat.beq_refl, hg]
      rfl
theorem zqg_inc (n : Nat) (k : Int) : zq_g1 (zy_sem pc (.iinc n k) len a b v) (zq_inc (pc + 3) a v) := by
  intro E e y ls st h κ z hk
  unfold zq_inc
  rw [zq_get_eq]
  cases hl : ls[a]? with
  | none => rfl
  | some w =>
    obtain ⟨t', x⟩ := w
    show zq_c (zq_a (Nat.beq t' 0) (zq_a (zy_nt x) (zy_nt (zq_add x v)))) (zq_put ls a (0, zq_add x v) (fun ls' => κ (pc + 3) ls' st h) z) z = z
    refine zq_cif (fun hb => ?_) rfl
    have hb1 := zq_ai hb
    have hb2 := zq_ai hb1.2
    rw [zq_put_eq]
    rw [zq_addi] at hb2 ⊢
    cases hg : (Nat.blt a ls.length && zs_pok ls a) with
    | false => rfl
    | true =>
      refine hk _ _ _ _ (zy_sem_pl (S := .inl (y, pc + 3, ls.set a (0, x + v), st, h)) ?_ ?_ (fun q => by cases q) rfl)
      · show zy_inc a v ls = true
        unfold zy_inc
        rw [hl]
        show (zy_nt x && zy_nt (x + v)) = true
        rw [hb2.1, hb2.2]
        rfl
      · show (zo_o ls[a]? fun x => zo_g (Nat.beq x.1 0 && zs_pok ls a) (zs_nx y (pc + 3) (ls.set a (0, x.2 + v)) st h)) = _
        rw [hl]
        show zo_g (Nat.beq t' 0 && zs_pok ls a) (zs_nx y (pc + 3) (ls.set a (0, x + v)) st h) = _
        rw [hb1.1, (Bool.and_eq_true_iff.mp hg).2]
        rfl
theorem zqg_bin {f g : Int → Int → Int} (hf : f = g) (h1 : ∀ ls st, zy_ok ls st ins a b v = zy_nk 2 st) (h4 : ∀ e S, zy_nrm e ins S = S) (h2 : ∀ E y ls st h, zs_ins E y pc ls st h ins len a b v = zs_int2 g y pc ls st h) : zq_g1 (zy_sem pc ins len a b v) (zq_bin (pc + 1) f) := by
  subst hf
  intro E e y ls st h κ z hk
  cases st with
  | nil => rfl
  | cons w r =>
    obtain ⟨t2, x2⟩ := w
    cases r with
    | nil => rfl
    | cons w r =>
      obtain ⟨t1, x1⟩ := w
      show zq_c (zq_a (zq_a (Nat.beq t2 0) (Nat.beq t1 0)) (zq_a (zq_a (zy_nt x2) (zy_nt x1)) (zy_nt (f x1 x2)))) (κ (pc + 1) ls ((0, f x1 x2) :: r) h) z = z
      refine zq_cif (fun hb => ?_) rfl
      have q1 := zq_ai hb
      have q2 := zq_ai q1.1
      have q3 := zq_ai q1.2
      have q4 := zq_ai q3.1
      have e2 : t2 = 0 := Nat.eq_of_beq_eq_true q2.1
      have e1 : t1 = 0 := Nat.eq_of_beq_eq_true q2.2
      subst e2; subst e1
      refine hk _ _ _ _ (zy_sem_pl ?_ ((h2 ..).trans rfl) (fun _ => ?_) (h4 ..))
      · rw [h1]
        show (zy_nt x2 && (zy_nt x1 && true)) = true
        rw [q4.1, q4.2]; rfl
      · show (zy_nt (f x1 x2) && true) = true
        rw [q3.2]; rfl
theorem zqg_rem : zq_g1 (zy_sem pc .irem len a b v) (zq_rem (pc + 1)) := by
  intro E e y ls st h κ z hk
  cases st with
  | nil => rfl
  | cons w r =>
    obtain ⟨t2, x2⟩ := w
    cases r with
    | nil => rfl
    | cons w r =>
      obtain ⟨t1, x1⟩ := w
      cases x2 with
      | negSucc k => rfl
      | ofNat k =>
        cases x1 with
        | negSucc n => rfl
        | ofNat n =>
          show zq_c (zq_a (zq_a (Nat.beq t2 0) (Nat.beq t1 0)) (zq_a (zq_a (zq_sml k) (zq_sml n)) (Nat.ble 1 k))) (κ (pc + 1) ls ((0, .ofNat (Nat.mod n k)) :: r) h) z = z
          refine zq_cif (fun hb => ?_) rfl
          have q1 := zq_ai hb
          have q2 := zq_ai q1.1
          have q3 := zq_ai q1.2
          have q4 := zq_ai q3.1
          have e2 : t2 = 0 := Nat.eq_of_beq_eq_true q2.1
          have e1 : t1 = 0 := Nat.eq_of_beq_eq_true q2.2
          subst e2; subst e1
          have k1 : 1 ≤ k := Nat.le_of_ble_eq_true q3.2
          have kk : (Int32.ofInt (Int.ofNat k)).toInt = (k : Int) := zy_toInt ⟨by show -2147483648 ≤ (k : Int); omega, zq_smli q4.1⟩
          have kn : (Int32.ofInt (Int.ofNat n)).toInt = (n : Int) := zy_toInt ⟨by show -2147483648 ≤ (n : Int); omega, zq_smli q4.2⟩
          have hne : ¬ Int32.ofInt (Int.ofNat k) = 0 := by
            rw [← Int32.toInt_inj, kk]
            show ¬ (k : Int) = 0
            omega
          have hrem : zi_rem (Int.ofNat n) (Int.ofNat k) = Int.ofNat (Nat.mod n k) := by
            unfold zi_rem
            have hs := zq_smli q4.2
            have hd : (Int32.ofInt (Int.ofNat n) / Int32.ofInt (Int.ofNat k)).toInt = (n : Int) / (k : Int) := by
              rw [Int32.toInt_div, kk, kn, Int.tdiv_eq_ediv_of_nonneg (by omega)]
              have h0 : (0 : Int) ≤ (n : Int) / (k : Int) := Int.ediv_nonneg (by omega) (by omega)
              have h9 : (n : Int) / (k : Int) ≤ (n : Int) := Int.ediv_le_self _ (by omega)
              exact Int.bmod_eq_of_le (by omega) (by omega)
            have hm : (Int32.ofInt (Int.ofNat n) / Int32.ofInt (Int.ofNat k) * Int32.ofInt (Int.ofNat k)).toInt = (n : Int) / (k : Int) * (k : Int) := by
              rw [Int32.toInt_mul, hd, kk]
              have h0 : (0 : Int) ≤ (n : Int) / (k : Int) * (k : Int) := Int.mul_nonneg (Int.ediv_nonneg (by omega) (by omega)) (by omega)
              have h9 : (n : Int) / (k : Int) * (k : Int) ≤ (n : Int) := Int.ediv_mul_le _ (by omega)
              exact Int.bmod_eq_of_le (by omega) (by omega)
            rw [Int32.toInt_sub, hm, kn]
            have h0 : (0 : Int) ≤ (n : Int) / (k : Int) * (k : Int) := Int.mul_nonneg (Int.ediv_nonneg (by omega) (by omega)) (by omega)
            have h9 : (n : Int) / (k : Int) * (k : Int) ≤ (n : Int) := Int.ediv_mul_le _ (by omega)
            rw [Int.bmod_eq_of_le (by omega) (by omega)]
            show (n : Int) - (n : Int) / (k : Int) * (k : Int) = ((n % k : Nat) : Int)
            have h8 := Int.emod_def (n : Int) (k : Int)
            rw [Int.mul_comm] at h8
            rw [← h8]
            rfl
          refine hk _ _ _ _ (zy_sem_pl ?_ ?_ (fun _ => ?_) rfl)
          · show (zy_nt (Int.ofNat k) && (zy_nt (Int.ofNat n) && true)) = true
            rw [zq_smlt q4.1, zq_smlt q4.2]; rfl
          · show zo_g (!decide (Int32.ofInt (Int.ofNat k) = 0)) (zs_nx y (pc + 1) ls ((0, zi_rem (Int.ofNat n) (Int.ofNat k)) :: r) h) = _
            rw [decide_eq_false hne, hrem]
            rfl
          · show (zy_nt (Int.ofNat (Nat.mod n k)) && true) = true
            have h7 : Nat.mod n k ≤ n := Nat.mod_le n k
            rw [zq_smlt (Nat.ble_eq_true_of_le (Nat.le_trans h7 (Nat.le_of_ble_eq_true q4.2)))]
            rfl
end
