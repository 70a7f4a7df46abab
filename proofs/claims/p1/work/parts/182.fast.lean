/-! The same, made to be reckoned fast: each instruction a small function with what follows as its arguments. -/
noncomputable def zq_c {α : Type} (b : Bool) (x z : α) : α := Bool.rec (motive := fun _ => α) z x b
noncomputable def zq_a (b c : Bool) : Bool := Bool.rec (motive := fun _ => Bool) false c b
noncomputable def zq_top {β : Type} (st : List zv_V) (f : β) (k : Nat → Int → List zv_V → β) : β := List.rec (motive := fun _ => β) f (fun v r _ => Prod.rec (motive := fun _ => β) (fun t x => k t x r) v) st
noncomputable def zq_int {β : Type} (x : Int) (p n : Nat → β) : β := Int.rec (motive := fun _ => β) p n x
noncomputable def zq_opt {α β : Type} (o : Option α) (f : β) (k : α → β) : β := Option.rec (motive := fun _ => β) f k o
noncomputable def zq_get {α β : Type} (l : List α) (n : Nat) (f : β) (k : α → β) : β := List.rec (motive := fun _ => Nat → β) (fun _ => f) (fun x _ ih n => Nat.rec (motive := fun _ => β) (k x) (fun m _ => ih m) n) l n
theorem zq_get_eq {α β : Type} (l : List α) (n : Nat) (f : β) (k : α → β) : zq_get l n f k = match l[n]? with
    | none => f
    | some x => k x := by
  induction l generalizing n with
  | nil => rfl
  | cons x r ih =>
    cases n with
    | zero => rfl
    | succ m => exact ih m
noncomputable def zq_nth {α : Type} (l : List α) : Nat → Option α := List.rec (motive := fun _ => Nat → Option α) (fun _ => none) (fun x _ ih n => Nat.rec (motive := fun _ => Option α) (some x) (fun m _ => ih m) n) l
theorem zq_nth_eq {α : Type} (l : List α) (n : Nat) : zq_nth l n = l[n]? := by
  induction l generalizing n with
  | nil => rfl
  | cons x r ih =>
    cases n with
    | zero => rfl
    | succ m => exact ih m
noncomputable def zq_set {α : Type} (l : List α) : Nat → α → (List α → Bool) → Bool → Bool := List.rec (motive := fun _ => Nat → α → (List α → Bool) → Bool → Bool) (fun _ _ _ f => f) (fun x r ih n v k f => Nat.rec (motive := fun _ => Bool) (k (v :: r)) (fun m _ => ih m v (fun r' => k (x :: r')) f) n) l
theorem zq_set_eq {α : Type} (l : List α) (n : Nat) (v : α) (k : List α → Bool) (f : Bool) : zq_set l n v k f = cond (Nat.blt n l.length) (k (l.set n v)) f := by
  induction l generalizing n k with
  | nil => rfl
  | cons x r ih =>
    cases n with
    | zero => rfl
    | succ m =>
      show zq_set r m v (fun r' => k (x :: r')) f = _
      rw [ih]
      have e : Nat.blt (m + 1) (x :: r).length = Nat.blt m r.length := rfl
      rw [e]
      rfl
noncomputable def zq_put (l : List zv_V) : Nat → zv_V → (List zv_V → Bool) → Bool → Bool := List.rec (motive := fun _ => Nat → zv_V → (List zv_V → Bool) → Bool → Bool) (fun _ _ _ f => f) (fun x r ih n v k f => Nat.rec (motive := fun _ => Bool) (k (v :: r)) (fun m _ => cond (Nat.beq m 0 && zs_wide x) f (ih m v (fun r' => k (x :: r')) f)) n) l
theorem zq_put_eq (l : List zv_V) (n : Nat) (v : zv_V) (k : List zv_V → Bool) (f : Bool) : zq_put l n v k f = cond (Nat.blt n l.length && zs_pok l n) (k (l.set n v)) f := by
  induction l generalizing n k with
  | nil => rfl
  | cons x r ih =>
    cases n with
    | zero => rfl
    | succ m =>
      show cond (Nat.beq m 0 && zs_wide x) f (zq_put r m v (fun r' => k (x :: r')) f) = _
      rw [ih]
      have e : Nat.blt (m + 1) (x :: r).length = Nat.blt m r.length := rfl
      rw [e]
      cases m with
      | zero =>
        show cond (zs_wide x) f (cond (Nat.blt 0 r.length && true) _ f) = cond (Nat.blt 0 r.length && !zs_wide x) _ f
        cases zs_wide x <;> cases Nat.blt 0 r.length <;> rfl
      | succ m => rfl
noncomputable def zq_len {α : Type} (l : List α) : Nat := List.rec (motive := fun _ => Nat) 0 (fun _ _ ih => Nat.succ ih) l
theorem zq_len_eq {α : Type} (l : List α) : zq_len l = l.length := by
  induction l with
  | nil => rfl
  | cons x r ih => exact congrArg Nat.succ ih
abbrev zq_KN : Type := Nat → List zv_V → List zv_V → zv_H → Bool
abbrev zq_KC : Type := Nat → List zv_V → Nat → List zv_V → List zv_V → zv_H → Bool
abbrev zq_KR : Type := zv_R → Bool
abbrev zq_KH : Type := Option (List (zy_E × zv_S)) → Bool
abbrev zq_M : Type := List (List Int) → zy_E → Nat → List zv_V → List zv_V → zv_H → Option (List (zy_E × zv_S))
abbrev zq_F : Type := List (List Int) → zy_E → Nat → List zv_V → List zv_V → zv_H → zq_KN → zq_KC → zq_KR → zq_KH → Bool
def zy_sem (pc : Nat) (ins : Instr) (len a b : Nat) (v : Int) : zq_M := fun E e y ls st h => cond (zy_ok ls st ins a b v)
  (match zs_ins E y pc ls st h ins len a b v with
    | none => none
    | some S => cond (zy_new ins a && !zy_post S) none (some [(e, zy_nrm e ins S)]))
  (zy_spec e y pc ls st h ins a b)
/-- what follows is told in two ways -/
def zq_cp (e : zy_E) (y : Nat) (κ : zq_KN) (κc : zq_KC) (κr : zq_KR) (H : zq_KH) : Prop :=
  (∀ pc ls st h, H (some [(e, .inl (y, pc, ls, st, h))]) = κ pc ls st h) ∧ (∀ t as pc ls st h, H (some [(e, .inr (.inl (t, as, (y, pc, ls, st, h))))]) = κc t as pc ls st h) ∧ ∀ r, H (some [(e, .inr (.inr r))]) = κr r
def zq_ok (m : zq_M) (F : zq_F) : Prop := ∀ E e y ls st h κ κc κr H, zq_cp e y κ κc κr H → F E e y ls st h κ κc κr H = H (m E e y ls st h)
section
variable {E : List (List Int)} {e : zy_E} {y pc len a b : Nat} {v : Int} {ins : Instr} {ls st : List zv_V} {h : zv_H} {κ : zq_KN} {κc : zq_KC} {κr : zq_KR} {H : zq_KH}
theorem zy_sem_pl {S : zv_S} (h1 : zy_ok ls st ins a b v = true) (h2 : zs_ins E y pc ls st h ins len a b v = some S) (h3 : zy_new ins a = true → zy_post S = true) (h4 : zy_nrm e ins S = S) : zy_sem pc ins len a b v E e y ls st h = some [(e, S)] := by
  unfold zy_sem
  rw [h1, cond_true, h2]
  show cond (zy_new ins a && !zy_post S) none (some [(e, zy_nrm e ins S)]) = _
  rw [h4]
  cases hn : zy_new ins a with
  | false => rfl
  | true => rw [h3 hn]; rfl
theorem zq_n {m : zq_M} {pc' : Nat} {ls' st' : List zv_V} {h' : zv_H} (hc : zq_cp e y κ κc κr H) (hs : m E e y ls st h = some [(e, .inl (y, pc', ls', st', h'))]) : κ pc' ls' st' h' = H (m E e y ls st h) := by
  rw [hs]; exact (hc.1 ..).symm
theorem zq_if {b : Bool} {A B C : Bool} (h1 : b = true → A = C) (h2 : B = C) : cond b A B = C := by
  cases b with
  | true => exact h1 rfl
  | false => exact h2
end
theorem zq_cif {b : Bool} {A B C : Bool} (h1 : b = true → A = C) (h2 : B = C) : zq_c b A B = C := by
  cases b with
  | true => exact h1 rfl
  | false => exact h2
theorem zq_ai {b c : Bool} (h : zq_a b c = true) : b = true ∧ c = true := by
  cases b with
  | true => exact ⟨rfl, h⟩
  | false => cases h
def zq_slow (m : zq_M) : zq_F := fun E e y ls st h _ _ _ H => H (m E e y ls st h)
def zq_w (m : zq_M) (G : List zv_V → List zv_V → zv_H → zq_KN → Bool → Bool) : zq_F := fun E e y ls st h κ _ _ H => G ls st h κ (H (m E e y ls st h))
def zq_wc (m : zq_M) (G : List zv_V → List zv_V → zv_H → zq_KC → Bool → Bool) : zq_F := fun E e y ls st h _ κc _ H => G ls st h κc (H (m E e y ls st h))
def zq_wr (m : zq_M) (y0 : Nat) (G : List zv_V → zv_H → zq_KR → Bool → Bool) : zq_F := fun E e y ls st h _ _ κr H => cond (Nat.beq y y0) (G st h κr (H (m E e y ls st h))) (H (m E e y ls st h))
noncomputable def zq_push (pc' t : Nat) (x : Int) (ls st : List zv_V) (h : zv_H) (κ : zq_KN) (z : Bool) : Bool := zq_c (zy_nt x) (κ pc' ls ((t, x) :: st) h) z
noncomputable def zq_load (pc' a t : Nat) (ls st : List zv_V) (h : zv_H) (κ : zq_KN) (z : Bool) : Bool := zq_get ls a z (fun v => Prod.rec (motive := fun _ => Bool) (fun t' x => zq_c (Nat.beq t' t) (κ pc' ls ((t, x) :: st) h) z) v)
noncomputable def zq_store (pc' a t : Nat) (ls st : List zv_V) (h : zv_H) (κ : zq_KN) (z : Bool) : Bool := zq_top st z (fun t' x r => zq_c (Nat.beq t' t) (zq_put ls a (t, x) (fun ls' => κ pc' ls' r h) z) z)
noncomputable def zq_add (x z : Int) : Int := zq_int x (fun n => zq_int z (fun k => .ofNat (Nat.add n k)) (fun _ => x + z)) (fun _ => x + z)
noncomputable def zq_mul (x z : Int) : Int := zq_int x (fun n => zq_int z (fun k => .ofNat (Nat.mul n k)) (fun _ => x * z)) (fun _ => x * z)
noncomputable def zq_sub (x z : Int) : Int := zq_int x (fun n => zq_int z (fun k => zq_c (Nat.ble k n) (.ofNat (Nat.sub n k)) (x - z)) (fun _ => x - z)) (fun _ => x - z)
noncomputable def zq_inc (pc' a : Nat) (v : Int) (ls st : List zv_V) (h : zv_H) (κ : zq_KN) (z : Bool) : Bool := zq_get ls a z (fun w => Prod.rec (motive := fun _ => Bool) (fun t' x => zq_c (zq_a (Nat.beq t' 0) (zq_a (zy_nt x) (zy_nt (zq_add x v)))) (zq_put ls a (0, zq_add x v) (fun ls' => κ pc' ls' st h) z) z) w)
noncomputable def zq_bin (pc' : Nat) (f : Int → Int → Int) (ls st : List zv_V) (h : zv_H) (κ : zq_KN) (z : Bool) : Bool := zq_top st z (fun t2 x2 r => zq_top r z (fun t1 x1 r => zq_c (zq_a (zq_a (Nat.beq t2 0) (Nat.beq t1 0)) (zq_a (zq_a (zy_nt x2) (zy_nt x1)) (zy_nt (f x1 x2)))) (κ pc' ls ((0, f x1 x2) :: r) h) z))
def zq_sml (n : Nat) : Bool := Nat.ble n 2147483647
noncomputable def zq_rem (pc' : Nat) (ls st : List zv_V) (h : zv_H) (κ : zq_KN) (z : Bool) : Bool := zq_top st z (fun t2 x2 r => zq_top r z (fun t1 x1 r => zq_int x2 (fun k => zq_int x1 (fun n => zq_c (zq_a (zq_a (Nat.beq t2 0) (Nat.beq t1 0)) (zq_a (zq_a (zq_sml k) (zq_sml n)) (Nat.ble 1 k))) (κ pc' ls ((0, .ofNat (Nat.mod n k)) :: r) h) z) (fun _ => z)) (fun _ => z)))
noncomputable def zq_ifz (pl pe pg : Nat) (ls st : List zv_V) (h : zv_H) (κ : zq_KN) (z : Bool) : Bool := zq_top st z (fun t x r => zq_c (Nat.beq t 0) (zq_int x (fun n => zq_c (zq_sml n) (Nat.rec (motive := fun _ => Bool) (κ pe ls r h) (fun _ _ => κ pg ls r h) n) z) (fun n => zq_c (zq_sml n) (κ pl ls r h) z)) z)
noncomputable def zq_icmp (pl pe pg : Nat) (ls st : List zv_V) (h : zv_H) (κ : zq_KN) (z : Bool) : Bool := zq_top st z (fun t2 x2 r => zq_top r z (fun t1 x1 r => zq_c (zq_a (Nat.beq t2 0) (Nat.beq t1 0))
  (zq_int x2 (fun k => zq_c (zq_sml k) (zq_int x1 (fun n => zq_c (zq_sml n) (zq_c (Nat.ble k n) (zq_c (Nat.beq n k) (κ pe ls r h) (κ pg ls r h)) (κ pl ls r h)) z) (fun n => zq_c (zq_sml n) (κ pl ls r h) z)) z)
    (fun k => zq_c (zq_sml k) (zq_int x1 (fun n => zq_c (zq_sml n) (κ pg ls r h) z) (fun _ => z)) z)) z))
def zq_goto (pc' : Nat) : zq_F := fun _ _ _ ls st h κ _ _ _ => κ pc' ls st h
/-- a cell of the heap: its kind, its numbers -/
noncomputable def zq_cell {β : Type} (h : zv_H) (q : Nat) (z : β) (k : Nat → List Int → β) : β := zq_opt (zq_nth h q) z (fun c => Prod.rec (motive := fun _ => β) k c)
noncomputable def zq_al (pc' kd t : Nat) (ls st : List zv_V) (h : zv_H) (κ : zq_KN) (z : Bool) : Bool := zq_top st z (fun t2 x2 r => zq_top r z (fun t1 x1 r => zq_int x2 (fun n => zq_int x1 (fun q => zq_c (zq_a (zq_a (Nat.beq t2 0) (Nat.beq t1 2)) (zq_a (zq_sml n) (zq_sml q)))
  (zq_cell h q z (fun k l => zq_c (Nat.beq k kd) (zq_get l n z (fun x => zq_c (zy_nt x) (κ pc' ls ((t, x) :: r) h) z)) z)) z) (fun _ => z)) (fun _ => z)))
noncomputable def zq_aal (pc' : Nat) (ls st : List zv_V) (h : zv_H) (κ : zq_KN) (z : Bool) : Bool := zq_top st z (fun t2 x2 r => zq_top r z (fun t1 x1 r => zq_int x2 (fun n => zq_int x1 (fun q => zq_c (zq_a (zq_a (Nat.beq t2 0) (Nat.beq t1 2)) (zq_a (zq_sml n) (zq_sml q)))
  (zq_cell h q z (fun k l => zq_c (Nat.beq k 52) (zq_get l n z (fun x => zq_int x (fun w => zq_c (zq_sml w) (κ pc' ls ((2, .ofNat w) :: r) h) z) (fun _ => z))) z)) z) (fun _ => z)) (fun _ => z)))
noncomputable def zq_eqi (x z : Int) : Bool := zq_int x (fun n => zq_int z (fun k => Nat.beq n k) (fun _ => false)) (fun n => zq_int z (fun _ => false) (fun k => Nat.beq n k))
/-- a row with one number anew, in its cell; the heap as it was, if the number stands there already -/
noncomputable def zq_wr1 (h : zv_H) (q kd : Nat) (l : List Int) (n : Nat) (x : Int) (k : zv_H → Bool) (z : Bool) : Bool := zq_get l n z (fun w => zq_c (zq_eqi w x) (k h) (zq_set l n x (fun l' => zq_set h q (kd, l') k z) z))
noncomputable def zq_as (pc' kd t : Nat) (ls st : List zv_V) (h : zv_H) (κ : zq_KN) (z : Bool) : Bool := zq_top st z (fun t3 x3 r => zq_top r z (fun t2 x2 r => zq_top r z (fun t1 x1 r => zq_int x2 (fun n => zq_int x1 (fun q => zq_c (zq_a (zq_a (Nat.beq t3 t) (zq_a (Nat.beq t2 0) (Nat.beq t1 2))) (zq_a (zq_sml n) (zq_sml q)))
  (zq_cell h q z (fun k l => zq_c (Nat.beq k kd) (zq_wr1 h q kd l n x3 (fun h' => κ pc' ls r h') z) z)) z) (fun _ => z)) (fun _ => z))))
noncomputable def zq_gf (pc' a b t : Nat) (ls st : List zv_V) (h : zv_H) (κ : zq_KN) (z : Bool) : Bool := zq_top st z (fun t1 x1 r => zq_int x1 (fun q => zq_c (zq_a (Nat.beq t1 2) (zq_sml q))
  (zq_cell h q z (fun k l => zq_c (Nat.beq k a) (zq_get l b z (fun x => κ pc' ls ((t, x) :: r) h)) z)) z) (fun _ => z))
noncomputable def zq_pf (pc' a b t : Nat) (ls st : List zv_V) (h : zv_H) (κ : zq_KN) (z : Bool) : Bool := zq_top st z (fun t2 x2 r => zq_top r z (fun t1 x1 r => zq_int x1 (fun q => zq_c (zq_a (zq_a (Nat.beq t2 t) (Nat.beq t1 2)) (zq_sml q))
  (zq_cell h q z (fun k l => zq_c (Nat.beq k a) (zq_wr1 h q a l b x2 (fun h' => κ pc' ls r h') z) z)) z) (fun _ => z)))
noncomputable def zq_ln (pc' : Nat) (ls st : List zv_V) (h : zv_H) (κ : zq_KN) (z : Bool) : Bool := zq_top st z (fun t1 x1 r => zq_int x1 (fun q => zq_c (zq_a (Nat.beq t1 2) (zq_sml q))
  (zq_cell h q z (fun k l => zq_c (zq_a (Nat.beq k 50 || Nat.beq k 52) (zq_sml (zq_len l))) (κ pc' ls ((0, .ofNat (zq_len l)) :: r) h) z)) z) (fun _ => z))
noncomputable def zq_dup (pc' : Nat) (ls st : List zv_V) (h : zv_H) (κ : zq_KN) (z : Bool) : Bool := zq_top st z (fun t x r => zq_c (Nat.beq t 0 || Nat.beq t 2) (κ pc' ls ((t, x) :: (t, x) :: r) h) z)
noncomputable def zq_pop (n : Nat) : List zv_V → List zv_V → (List zv_V → List zv_V → Bool) → Bool → Bool := Nat.rec (motive := fun _ => List zv_V → List zv_V → (List zv_V → List zv_V → Bool) → Bool → Bool) (fun st as k _ => k as st) (fun _ ih st as k f => List.rec (motive := fun _ => Bool) f (fun v r _ => ih r (v :: as) k f) st) n
def zq_few (l : List zv_V) : Bool := match l with
  | [] => true
  | [_] => true
  | [_, _] => true
  | [_, _, _] => true
  | [_, _, _, _] => true
  | _ => false
noncomputable def zq_call (pc' t n : Nat) (ls st : List zv_V) (h : zv_H) (κc : zq_KC) (z : Bool) : Bool := zq_pop n st [] (fun as r => zq_c (zq_few r) (κc t as pc' ls r h) z) z
noncomputable def zq_recv (h : zv_H) (k : Nat) (as : List zv_V) : Bool := zq_top as false (fun t x _ => zq_int x (fun q => zq_c (zq_a (Nat.beq t 2) (zq_sml q)) (zq_cell h q false (fun k' _ => Nat.beq k' k)) false) (fun _ => false))
noncomputable def zq_callv (pc' t n k : Nat) (ls st : List zv_V) (h : zv_H) (κc : zq_KC) (z : Bool) : Bool := zq_pop n st [] (fun as r => zq_c (zq_a (zq_few r) (zq_recv h k as)) (κc t as pc' ls r h) z) z
noncomputable def zq_ret0 (st : List zv_V) (h : zv_H) (κr : zq_KR) (z : Bool) : Bool := List.rec (motive := fun _ => Bool) (κr (0, (0, 0), h)) (fun _ _ _ => z) st
noncomputable def zq_ret (t : Nat) (bz ng : Bool) (st : List zv_V) (h : zv_H) (κr : zq_KR) (z : Bool) : Bool := zq_top st z (fun t' x r => zq_c (zq_a (Nat.beq t' t) (List.isEmpty r)) (zq_int x (fun n => zq_c (zq_a (zq_sml n) (!bz || Nat.ble n 1)) (κr (1, (t, .ofNat n), h)) z) (fun n => zq_c ng (κr (1, (t, .negSucc n), h)) z)) z)
noncomputable def zq_obj (pc' : Nat) (ls st : List zv_V) (h : zv_H) (κ : zq_KN) (z : Bool) : Bool := zq_top st z (fun t x r => zq_int x (fun q => zq_c (zq_a (zq_a (Nat.beq t 2) (zq_sml q)) (zq_few r)) (κ pc' ls r h) z) (fun _ => z))
noncomputable def zq_snoc {α : Type} (l : List α) : α → (List α → Bool) → Bool := List.rec (motive := fun _ => α → (List α → Bool) → Bool) (fun c k => k [c]) (fun x _ ih c k => ih c (fun l' => k (x :: l'))) l
theorem zq_snoc_eq {α : Type} (l : List α) (c : α) (k : List α → Bool) : zq_snoc l c k = k (l ++ [c]) := by
  induction l generalizing k with
  | nil => rfl
  | cons x r ih => exact ih (fun l' => k (x :: l'))
noncomputable def zq_newo (pc' a : Nat) (l : List Int) (ls st : List zv_V) (h : zv_H) (κ : zq_KN) (z : Bool) : Bool := zq_c (zq_sml (zq_len h)) (zq_snoc h (a, l) (fun h' => κ pc' ls ((2, .ofNat (zq_len h)) :: st) h')) z
noncomputable def zq_newa (pc' kd : Nat) (w : Int) (ls st : List zv_V) (h : zv_H) (κ : zq_KN) (z : Bool) : Bool := zq_top st z (fun t x r => zq_int x (fun n => zq_c (zq_a (zq_a (Nat.beq t 0) (Nat.ble n 60000000)) (zq_sml (zq_len h))) (zq_snoc h (kd, List.replicate n w) (fun h' => κ pc' ls ((2, .ofNat (zq_len h)) :: r) h')) z) (fun _ => z))
noncomputable def zq_aas (pc' : Nat) (ls st : List zv_V) (h : zv_H) (κ : zq_KN) (z : Bool) : Bool := zq_top st z (fun t3 x3 r => zq_top r z (fun t2 x2 r => zq_top r z (fun t1 x1 r => zq_int x3 (fun w => zq_int x2 (fun n => zq_int x1 (fun q => zq_c (zq_a (zq_a (Nat.beq t3 2) (zq_a (Nat.beq t2 0) (Nat.beq t1 2))) (zq_a (zq_sml w) (zq_a (zq_sml n) (zq_sml q))))
  (zq_cell h q z (fun k l => zq_cell h w z (fun kw _ => zq_c (zq_a (Nat.beq k 52) (Nat.beq kw 3)) (zq_wr1 h q 52 l n (.ofNat w) (fun h' => κ pc' ls r h') z) z))) z) (fun _ => z)) (fun _ => z)) (fun _ => z))))
/-- n of f, from sp on -/
noncomputable def zq_seg (f : List Int) : Nat → Nat → (List Int → Bool) → Bool → Bool := List.rec (motive := fun _ => Nat → Nat → (List Int → Bool) → Bool → Bool) (fun sp n k z => Nat.rec (motive := fun _ => Bool) (Nat.rec (motive := fun _ => Bool) (k []) (fun _ _ => z) n) (fun _ _ => z) sp) (fun x _ ih sp n k z => Nat.rec (motive := fun _ => Bool) (Nat.rec (motive := fun _ => Bool) (k []) (fun n' _ => ih 0 n' (fun l => k (x :: l)) z) n) (fun sp' _ => ih sp' n k z) sp) f
/-- the numbers of l over those of g, from dp on -/
noncomputable def zq_over (g : List Int) : Nat → List Int → (List Int → Bool) → Bool → Bool := List.rec (motive := fun _ => Nat → List Int → (List Int → Bool) → Bool → Bool) (fun dp l k z => Nat.rec (motive := fun _ => Bool) (List.rec (motive := fun _ => Bool) (k []) (fun _ _ _ => z) l) (fun _ _ => z) dp) (fun x r ih dp l k z => Nat.rec (motive := fun _ => Bool) (List.rec (motive := fun _ => Bool) (k (x :: r)) (fun w l' _ => ih 0 l' (fun r' => k (w :: r')) z) l) (fun dp' _ => ih dp' l (fun r' => k (x :: r')) z) dp) g
noncomputable def zq_cpyo (pc' : Nat) (ls st : List zv_V) (h : zv_H) (κ : zq_KN) (z : Bool) : Bool := zq_top st z (fun t5 x5 r => zq_top r z (fun t4 x4 r => zq_top r z (fun t3 x3 r => zq_top r z (fun t2 x2 r => zq_top r z (fun t1 x1 r =>
  zq_int x5 (fun n => zq_int x4 (fun dp => zq_int x3 (fun q1 => zq_int x2 (fun sp => zq_int x1 (fun q0 => zq_c (zq_a (zq_a (zq_a (Nat.beq t5 0) (Nat.beq t4 0)) (zq_a (Nat.beq t3 2) (zq_a (Nat.beq t2 0) (Nat.beq t1 2)))) (zq_a (zq_a (zq_a (zq_sml n) (zq_sml dp)) (zq_a (zq_sml q1) (zq_a (zq_sml sp) (zq_sml q0)))) (zq_few r)))
    (zq_cell h q0 z (fun k0 f => zq_cell h q1 z (fun k1 g => zq_c (zq_a (Nat.beq k0 50) (Nat.beq k1 50)) (zq_seg f sp n (fun l => zq_over g dp l (fun g' => zq_set h q1 (50, g') (fun h' => κ pc' ls r h') z) z) z) z))) z) (fun _ => z)) (fun _ => z)) (fun _ => z)) (fun _ => z)) (fun _ => z))))))
noncomputable def zq_two {α : Type} (l : List (List α)) (y : Nat) : Option α := match zq_nth l (y / 16) with
  | none => none
  | some ts => zq_nth ts (y % 16)
/-- where a comparison goes: less, the same, greater -/
def zq_tg (c : ClassFile.Cond) (a n : Nat) : Nat × Nat × Nat := match c with
  | .lt => (a, n, n)
  | .ge => (n, a, a)
  | .gt => (n, n, a)
  | .le => (a, a, n)
  | .eq => (n, a, n)
  | .ne => (a, n, a)
/-- an instruction, once for all -/
noncomputable def zq_of (pc : Nat) (ins : Instr) (len a b : Nat) (v : Int) : Option zq_F :=
  match ins with
  | .iconst _ => some (zq_w (zy_sem pc ins len a b v) (zq_push (pc + 1) 0 v))
  | .bipush _ => some (zq_w (zy_sem pc ins len a b v) (zq_push (pc + 2) 0 v))
  | .sipush _ => some (zq_w (zy_sem pc ins len a b v) (zq_push (pc + 3) 0 v))
  | .iload_n _ => some (zq_w (zy_sem pc ins len a b v) (zq_load (pc + 1) a 0))
  | .iload _ => some (zq_w (zy_sem pc ins len a b v) (zq_load (pc + 2) a 0))
  | .aload_n _ => some (zq_w (zy_sem pc ins len a b v) (zq_load (pc + 1) a 2))
  | .aload _ => some (zq_w (zy_sem pc ins len a b v) (zq_load (pc + 2) a 2))
  | .istore_n _ => some (zq_w (zy_sem pc ins len a b v) (zq_store (pc + 1) a 0))
  | .istore _ => some (zq_w (zy_sem pc ins len a b v) (zq_store (pc + 2) a 0))
  | .astore_n _ => some (zq_w (zy_sem pc ins len a b v) (zq_store (pc + 1) a 2))
  | .astore _ => some (zq_w (zy_sem pc ins len a b v) (zq_store (pc + 2) a 2))
  | .iinc _ _ => some (zq_w (zy_sem pc ins len a b v) (zq_inc (pc + 3) a v))
  | .iadd => some (zq_w (zy_sem pc ins len a b v) (zq_bin (pc + 1) zq_add))
  | .isub => some (zq_w (zy_sem pc ins len a b v) (zq_bin (pc + 1) zq_sub))
  | .imul => some (zq_w (zy_sem pc ins len a b v) (zq_bin (pc + 1) zq_mul))
  | .irem => some (zq_w (zy_sem pc ins len a b v) (zq_rem (pc + 1)))
  | .ixor => some (zq_w (zy_sem pc ins len a b v) (zq_bin (pc + 1) zi_xor))
  | .iand => some (zq_w (zy_sem pc ins len a b v) (zq_bin (pc + 1) zi_and))
  | .dup => some (zq_w (zy_sem pc ins len a b v) (zq_dup (pc + 1)))
  | .goto _ => some (zq_goto a)
  | .ifCond c _ => match zq_tg c a (pc + 3) with
    | (pl, pe, pg) => some (zq_w (zy_sem pc ins len a b v) (zq_ifz pl pe pg))
  | .if_icmp c _ => match zq_tg c a (pc + 3) with
    | (pl, pe, pg) => some (zq_w (zy_sem pc ins len a b v) (zq_icmp pl pe pg))
  | .iaload => some (zq_w (zy_sem pc ins len a b v) (zq_al (pc + 1) 50 0))
  | .laload => some (zq_w (zy_sem pc ins len a b v) (zq_al (pc + 1) 51 1))
  | .new _ => match Nat.ble 100 a, zf_new a with
    | false, some l => some (zq_w (zy_sem pc ins len a b v) (zq_newo (pc + 3) a l))
    | _, _ => some (zq_slow (zy_sem pc ins len a b v))
  | .newarray .int => some (zq_w (zy_sem pc ins len a b v) (zq_newa (pc + 2) 50 0))
  | .anewarray _ => some (zq_w (zy_sem pc ins len a b v) (zq_newa (pc + 3) 52 (-1)))
  | .aastore => some (zq_w (zy_sem pc ins len a b v) (zq_aas (pc + 1)))
  | .aaload => some (zq_w (zy_sem pc ins len a b v) (zq_aal (pc + 1)))
  | .iastore => some (zq_w (zy_sem pc ins len a b v) (zq_as (pc + 1) 50 0))
  | .lastore => some (zq_w (zy_sem pc ins len a b v) (zq_as (pc + 1) 51 1))
  | .arraylength => some (zq_w (zy_sem pc ins len a b v) (zq_ln (pc + 1)))
  | .getfield _ => match zf_tag a b with
    | none => some (zq_slow (zy_sem pc ins len a b v))
    | some t => some (zq_w (zy_sem pc ins len a b v) (zq_gf (pc + 3) a b (zf_vt t)))
  | .putfield _ => match zf_tag a b with
    | none => some (zq_slow (zy_sem pc ins len a b v))
    | some t => match Nat.beq t 5 with
      | true => some (zq_slow (zy_sem pc ins len a b v))
      | false => some (zq_w (zy_sem pc ins len a b v) (zq_pf (pc + 3) a b (zf_vt t)))
  | .invokestatic _ => match Nat.beq a 9003 with
    | true => some (zq_w (zy_sem pc ins len a b v) (zq_cpyo (pc + 3)))
    | false => match Nat.ble 9000 a, zq_two zm_all a with
    | false, some m => match Nat.beq b 1 with
      | true => some (zq_wc (zy_sem pc ins len a b v) (zq_call (pc + 3) a m.2.2.2.2.2.1))
      | false => some (zq_slow (zy_sem pc ins len a b v))
    | _, _ => some (zq_slow (zy_sem pc ins len a b v))
  | .invokevirtual _ => match zq_two zm_all a with
    | none => some (zq_slow (zy_sem pc ins len a b v))
    | some m => match (Nat.beq b 0 && Nat.blt m.2.2.2.2.2.2.1 60) with
      | true => some (zq_wc (zy_sem pc ins len a b v) (zq_callv (pc + 3) a m.2.2.2.2.2.1 m.2.2.2.2.2.2.1))
      | false => some (zq_slow (zy_sem pc ins len a b v))
  | .invokespecial _ => match Nat.beq a 9999 with
    | true => some (zq_w (zy_sem pc ins len a b v) (zq_obj (pc + 3)))
    | false => match Nat.ble 9000 a, zq_two zm_all a with
    | false, some m => match (Nat.beq b 2 && !Nat.beq m.2.2.2.2.2.2.1 99) with
      | true => some (zq_wc (zy_sem pc ins len a b v) (zq_callv (pc + 3) a m.2.2.2.2.2.1 m.2.2.2.2.2.2.1))
      | false => some (zq_slow (zy_sem pc ins len a b v))
    | _, _ => some (zq_slow (zy_sem pc ins len a b v))
  | _ => some (zq_slow (zy_sem pc ins len a b v))
/-- of a method whose answer is known to be of a sort -/
noncomputable def zq_ofr (y pc : Nat) (ins : Instr) (len a b : Nat) (v : Int) : Option zq_F :=
  match ins with
  | .ireturn => match zq_two zm_all y with
    | none => some (zq_slow (zy_sem pc ins len a b v))
    | some m => match Nat.beq m.2.2.2.2.1 1, Nat.beq m.2.2.2.2.1 2 with
      | true, _ => some (zq_wr (zy_sem pc ins len a b v) y (zq_ret 0 false true))
      | false, true => some (zq_wr (zy_sem pc ins len a b v) y (zq_ret 0 true false))
      | false, false => some (zq_slow (zy_sem pc ins len a b v))
  | .return_ => match zq_two zm_all y with
    | none => some (zq_slow (zy_sem pc ins len a b v))
    | some m => match Nat.beq m.2.2.2.2.1 0 with
      | true => some (zq_wr (zy_sem pc ins len a b v) y zq_ret0)
      | false => some (zq_slow (zy_sem pc ins len a b v))
  | .areturn => match zq_two zm_all y with
    | none => some (zq_slow (zy_sem pc ins len a b v))
    | some m => match Nat.beq m.2.2.2.2.1 3 with
      | true => some (zq_wr (zy_sem pc ins len a b v) y (zq_ret 2 false false))
      | false => some (zq_slow (zy_sem pc ins len a b v))
  | ins => zq_of pc ins len a b v
noncomputable def zq_find (y : Nat) (es : List ze_E) (pc : Nat) : Option zq_F := match es with
  | [] => none
  | e :: es => cond (Nat.beq e.1 pc) (match e with
    | (pc, ins, len, a, b, _, v) => zq_ofr y pc ins len a b v) (zq_find y es pc)
noncomputable def zq_at (y pc : Nat) : Option zq_F := match zq_two zt_all y with
  | none => none
  | some t => match zq_nth t (pc / 16) with
    | none => none
    | some es => zq_find y es pc
noncomputable def zq_ent (t : Nat) (as : List zv_V) (h : zv_H) : Option zv_F := match zq_two zm_all t with
  | none => none
  | some m => zo_g (Nat.ble (zs_locals as).length m.2.2.1 && !Nat.beq t zk_law) (some (t, 0, zs_locals as ++ List.replicate (m.2.2.1 - (zs_locals as).length) (9, 0), [], h))
abbrev zq_I : Type := Nat → zy_E → Nat → Nat → List zv_V → List zv_V → zv_H → (zy_E → zv_R → Bool) → Bool
def zq_fr (fr : zv_F) (k : Nat → Nat → List zv_V → List zv_V → zv_H → Bool) : Bool := match fr with
  | (y, pc, ls, st, h) => k y pc ls st h
def zq_kn (ih : zq_I) (d : Nat) (e : zy_E) (y : Nat) (k : zy_E → zv_R → Bool) (pc : Nat) (ls st : List zv_V) (h : zv_H) : Bool := ih d e y pc ls st h k
def zq_bk (ih : zq_I) (d : Nat) (g : zv_F) (k : zy_E → zv_R → Bool) (e : zy_E) (r : zv_R) : Bool := match zs_back r g with
  | none => cond (Nat.beq r.1 2 && List.isEmpty (zh_find zh_tabs g.1) && !zm_ini g.1) (k e r) false
  | some fr => zq_fr fr (fun y pc ls st h => ih d e y pc ls st h k)
noncomputable def zq_kc (ih : zq_I) (d : Nat) (e : zy_E) (y : Nat) (k : zy_E → zv_R → Bool) (t : Nat) (as : List zv_V) (pc : Nat) (ls st : List zv_V) (h : zv_H) : Bool := match d with
  | 0 => false
  | d' + 1 => match zq_ent t as h with
    | none => false
    | some fr => zq_fr fr (fun y1 pc1 ls1 st1 h1 => ih d' e y1 pc1 ls1 st1 h1 (zq_bk ih (d' + 1) (y, pc, ls, st, h) k))
noncomputable def zq_kh (ih : zq_I) (d : Nat) (k : zy_E → zv_R → Bool) (o : Option (List (zy_E × zv_S))) : Bool := match o with
  | none => false
  | some l => zy_all1 l fun p => match p with
    | (e, .inl (y1, pc1, ls1, st1, h1)) => ih d e y1 pc1 ls1 st1 h1 k
    | (e, .inr (.inr r)) => k e r
    | (e, .inr (.inl (t, as, (y, pc, ls, st, h)))) => zq_kc ih d e y k t as pc ls st h
noncomputable def zq_one (E : List (List Int)) (ih : zq_I) (d : Nat) (e : zy_E) (y pc : Nat) (ls st : List zv_V) (h : zv_H) (k : zy_E → zv_R → Bool) : Bool :=
  zq_opt (zq_at y pc) false (fun F => F E e y ls st h (zq_kn ih d e y k) (zq_kc ih d e y k) (k e) (zq_kh ih d k))
noncomputable def zq_many (E : List (List Int)) (hs : List zy_E) (ih : zq_I) (d : Nat) (y pc : Nat) (ls st : List zv_V) (h : zv_H) (k : zy_E → zv_R → Bool) : Bool :=
  zy_all1 hs fun e => zq_one E ih d e y pc ls st h k
/-- the walk, made to be reckoned fast -/
noncomputable def zq_exec (E : List (List Int)) (hs : List zy_E) (n : Nat) : zq_I :=
  Nat.rec (motive := fun _ => zq_I) (fun _ _ _ _ _ _ _ _ => false)
    (fun _ ih d e y pc ls st h k => zq_c (zq_c (Nat.beq y zk_law) (Nat.beq pc zy_pc0) false) (zq_many E hs ih d y pc ls st h k) (zq_one E ih d e y pc ls st h k)) n
noncomputable def zq_go (hs : List zy_E) : Bool := zq_exec zy_six hs 100000000 100 ([], []) zk_law 0 ((2, -2) :: List.replicate 8 (9, 0)) [] [] zy_fin
