/-! What the tables say. -/
def zm_at (y : Nat) : Option zm_M := match zm_all[y / 16]? with
  | none => none
  | some ms => ms[y % 16]?
def zt_find : List ze_E → Nat → Option (Instr × Nat × Nat × Nat × Nat × Int)
  | [], _ => none
  | e :: es, pc => cond (Nat.beq e.1 pc) (some e.2) (zt_find es pc)
def zt_tab (y : Nat) : List (List ze_E) := match zt_all[y / 16]? with
  | none => []
  | some ts => match ts[y % 16]? with
    | none => []
    | some t => t
def zt_at (y pc : Nat) : Option (Instr × Nat × Nat × Nat × Nat × Int) := match (zt_tab y)[pc / 16]? with
  | none => none
  | some es => zt_find es pc
def zf_vt (t : Nat) : Nat := cond (Nat.beq t 5) 0 t
def zf_tag (k b : Nat) : Option Nat := match zf_tags[k]? with
  | none => none
  | some ts => ts[b]?
def zf_new (k : Nat) : Option (List Int) := match zf_tags[k]? with
  | none => none
  | some ts => some (ts.map (fun t => cond (Nat.beq t 2) (-1) 0))
/-- handlers: the first that covers pc (from, to, where, pool number, which exception, its word's place) and names the exception -/
def zh_find (tabs : List (Nat × List (Nat × Nat × Nat × Nat × Nat × Nat))) (y : Nat) : List (Nat × Nat × Nat × Nat × Nat × Nat) := match tabs with
  | [] => []
  | q :: qs => cond (Nat.beq q.1 y) q.2 (zh_find qs y)
def zh_pick (hs : List (Nat × Nat × Nat × Nat × Nat × Nat)) (pc e : Nat) : Option Nat := match hs with
  | [] => none
  | q :: qs => cond (Nat.ble q.1 pc && Nat.blt pc q.2.1 && Nat.beq q.2.2.2.2.1 e) (some q.2.2.1) (zh_pick qs pc e)
