/-! ===== the plain machine: what a method of the system does to a plain memory =====
A memory: the kinds of its cells in the order in which they were made (below 13 an object of that class; 13 bytes, 14 ints, 15 booleans, 16 steps, 17 longs) with their lengths; how many cells and slots were made, exceptions' too; what ints, longs, references each cell holds. -/
abbrev bi_Mem : Type := List (Nat × Nat) × (Nat × Nat) × (Nat → Nat → Int32) × (Nat → Nat → Int64) × (Nat → Nat → Option Nat)
abbrev bi_K (M : bi_Mem) : List (Nat × Nat) := M.1
abbrev bi_cn (M : bi_Mem) : Nat := M.2.1.1
abbrev bi_sn (M : bi_Mem) : Nat := M.2.1.2
abbrev bi_I (M : bi_Mem) : Nat → Nat → Int32 := M.2.2.1
abbrev bi_L (M : bi_Mem) : Nat → Nat → Int64 := M.2.2.2.1
abbrev bi_P (M : bi_Mem) : Nat → Nat → Option Nat := M.2.2.2.2
def bi_up {α : Type} (f : Nat → Nat → α) (a k : Nat) (v : α) : Nat → Nat → α := fun b => if b = a then va_up (f a) k v else f b
def bi_clr {α : Type} (f : Nat → Nat → α) (a : Nat) (v : α) : Nat → Nat → α := fun b => if b = a then (fun _ => v) else f b
def bi_row {α : Type} (f : Nat → Nat → α) (a : Nat) (g : Nat → α) : Nat → Nat → α := fun b => if b = a then g else f b
abbrev bi_setI (M : bi_Mem) (f : Nat → Nat → Int32) : bi_Mem := (M.1, M.2.1, f, M.2.2.2)
abbrev bi_setL (M : bi_Mem) (f : Nat → Nat → Int64) : bi_Mem := (M.1, M.2.1, M.2.2.1, f, M.2.2.2.2)
abbrev bi_setP (M : bi_Mem) (f : Nat → Nat → Option Nat) : bi_Mem := (M.1, M.2.1, M.2.2.1, M.2.2.2.1, f)
/-- one cell more, of that kind and so many slots, all as they are at first -/
abbrev bi_mk (M : bi_Mem) (q : Nat × Nat) : bi_Mem := (M.1 ++ [q], (M.2.1.1 + 1, M.2.1.2 + q.2), bi_clr M.2.2.1 M.1.length 0, bi_clr M.2.2.2.1 M.1.length 0, bi_clr M.2.2.2.2 M.1.length none)
/-- an exception was made: a cell of six slots that nobody looks at -/
abbrev bi_ex1 (M : bi_Mem) : bi_Mem := (M.1, (M.2.1.1 + 1, M.2.1.2 + 6), M.2.2)
def bi_kd (M : bi_Mem) (a : Nat) : Nat × Nat := M.1.getD a (99, 0)
def bi_in (i : Int32) (n : Nat) : Bool := !(decide (i < 0)) && decide (i.toNatClampNeg < n)
def bi_tg (pc : Nat) (off : Int) : Option Nat := match (pc : Int) + off with
  | .ofNat t => some t
  | _ => none
abbrev bi_Lv : Type := List (Nat × Value)
def bi_sto (lv : bi_Lv) (i : Nat) (v : Value) : bi_Lv := (i, v) :: lv.filter (fun q => !(q.1 == i) && !(q.1 + 1 == i && q.2.category == 2))
/-- the locals without the one at i -/
def bi_drop (lv : bi_Lv) (i : Nat) : bi_Lv := lv.filter (fun q => !(q.1 == i) && !(q.1 + 1 == i && q.2.category == 2))
def bi_sto2 (lv : bi_Lv) (i : Nat) (v : Value) : bi_Lv := (i, v) :: lv.filter (fun q => !(q.1 == i) && (!(q.1 == i + 1) && !(q.1 + 1 == i && q.2.category == 2)))
/-- what comes of an instruction: the next state; a return; a throw; a call (the method, its arguments, what stays on the stack) -/
abbrev bi_S : Type := Nat × bi_Lv × List Value × bi_Mem
abbrev bi_R : Type := bi_S ⊕ (Option Value × bi_Mem) ⊕ (Nat × bi_Mem) ⊕ (Nat × List Value × List Value × bi_Mem)
abbrev bi_nx (pc : Nat) (lv : bi_Lv) (st : List Value) (M : bi_Mem) : Option (Bool × bi_R) := some (true, .inl (pc, lv, st, M))
abbrev bi_nxc (b : Bool) (pc : Nat) (lv : bi_Lv) (st : List Value) (M : bi_Mem) : Option (Bool × bi_R) := some (b, .inl (pc, lv, st, M))
def bi_ldI (k pc : Nat) (lv : bi_Lv) (st : List Value) (M : bi_Mem) : Option (Bool × bi_R) := match bi_lk k lv with
  | some (.int x) => bi_nx pc lv (.int x :: st) M
  | _ => none
def bi_ldL (k pc : Nat) (lv : bi_Lv) (st : List Value) (M : bi_Mem) : Option (Bool × bi_R) := match bi_lk k lv with
  | some (.long x) => bi_nx pc lv (.long x :: st) M
  | _ => none
def bi_ldA (k pc : Nat) (lv : bi_Lv) (st : List Value) (M : bi_Mem) : Option (Bool × bi_R) := match bi_lk k lv with
  | some (.ref x) => bi_nx pc lv (.ref x :: st) M
  | _ => none
def bi_stI (n k pc : Nat) (lv : bi_Lv) (st : List Value) (M : bi_Mem) : Option (Bool × bi_R) := match st with
  | .int x :: r => bi_nxc (decide (k < n)) pc (bi_sto lv k (.int x)) r M
  | _ => none
def bi_stL (n k pc : Nat) (lv : bi_Lv) (st : List Value) (M : bi_Mem) : Option (Bool × bi_R) := match st with
  | .long x :: r => bi_nxc (decide (k + 1 < n)) pc (bi_sto2 lv k (.long x)) r M
  | _ => none
def bi_stA (n k pc : Nat) (lv : bi_Lv) (st : List Value) (M : bi_Mem) : Option (Bool × bi_R) := match st with
  | .ref x :: r => bi_nxc (decide (k < n)) pc (bi_sto lv k (.ref x)) r M
  | _ => none
def bi_iinc (n k : Nat) (w : Int) (pc : Nat) (lv : bi_Lv) (st : List Value) (M : bi_Mem) : Option (Bool × bi_R) := match bi_lk k lv with
  | some (.int x) => bi_nxc (decide (k < n)) pc (bi_sto lv k (.int (x + Int32.ofInt w))) st M
  | _ => none
def bi_op2 (f : Int32 → Int32 → Int32) (pc : Nat) (lv : bi_Lv) (st : List Value) (M : bi_Mem) : Option (Bool × bi_R) := match st with
  | .int y :: .int x :: r => bi_nx pc lv (.int (f x y) :: r) M
  | _ => none
def bi_op2d (f : Int32 → Int32 → Int32) (pc : Nat) (lv : bi_Lv) (st : List Value) (M : bi_Mem) : Option (Bool × bi_R) := match st with
  | .int y :: .int x :: r => bi_nxc (!(decide (y = 0))) pc lv (.int (f x y) :: r) M
  | _ => none
def bi_op1 (f : Int32 → Int32) (pc : Nat) (lv : bi_Lv) (st : List Value) (M : bi_Mem) : Option (Bool × bi_R) := match st with
  | .int x :: r => bi_nx pc lv (.int (f x) :: r) M
  | _ => none
def bi_opL (f : Int64 → Int64 → Int64) (pc : Nat) (lv : bi_Lv) (st : List Value) (M : bi_Mem) : Option (Bool × bi_R) := match st with
  | .long y :: .long x :: r => bi_nx pc lv (.long (f x y) :: r) M
  | _ => none
def bi_if1 (c : ClassFile.Cond) (pc : Nat) (off : Int) (lv : bi_Lv) (st : List Value) (M : bi_Mem) : Option (Bool × bi_R) := match st, bi_tg pc off with
  | .int x :: r, some t => (match c with
    | .eq => bi_nx (if x = 0 then t else pc + 3) lv r M
    | .ne => bi_nx (if ¬ x = 0 then t else pc + 3) lv r M
    | .lt => bi_nx (if x < 0 then t else pc + 3) lv r M
    | .ge => bi_nx (if 0 ≤ x then t else pc + 3) lv r M
    | .gt => bi_nx (if 0 < x then t else pc + 3) lv r M
    | .le => bi_nx (if x ≤ 0 then t else pc + 3) lv r M)
  | _, _ => none
def bi_if2 (c : ClassFile.Cond) (pc : Nat) (off : Int) (lv : bi_Lv) (st : List Value) (M : bi_Mem) : Option (Bool × bi_R) := match st, bi_tg pc off with
  | .int y :: .int x :: r, some t => (match c with
    | .eq => bi_nx (if x = y then t else pc + 3) lv r M
    | .ne => bi_nx (if ¬ x = y then t else pc + 3) lv r M
    | .lt => bi_nx (if x < y then t else pc + 3) lv r M
    | .ge => bi_nx (if y ≤ x then t else pc + 3) lv r M
    | .gt => bi_nx (if y < x then t else pc + 3) lv r M
    | .le => bi_nx (if x ≤ y then t else pc + 3) lv r M)
  | _, _ => none
def bi_go (pc : Nat) (off : Int) (lv : bi_Lv) (st : List Value) (M : bi_Mem) : Option (Bool × bi_R) := match bi_tg pc off with
  | some t => bi_nx t lv st M
  | _ => none
def bi_swt (d lo hi : Int) (offs : Array Int) (pc : Nat) (x : Int32) : Option Nat :=
  if x.toInt < lo ∨ hi < x.toInt then bi_tg pc d else match offs[(x.toInt - lo).toNat]? with
  | some off => bi_tg pc off
  | none => none
def bi_sw (d lo hi : Int) (offs : Array Int) (pc : Nat) (lv : bi_Lv) (st : List Value) (M : bi_Mem) : Option (Bool × bi_R) := match st with
  | .int x :: r => (match bi_swt d lo hi offs pc x with
    | some t => bi_nx t lv r M
    | none => none)
  | _ => none
def bi_getf (o i pc : Nat) (lv : bi_Lv) (st : List Value) (M : bi_Mem) : Option (Bool × bi_R) := match bi_lf o i, st with
  | some (c, k), .ref a :: r => (match (bi_ft c k).1 with
    | 0 => bi_nxc (Nat.beq (bi_kd M a).1 c) pc lv (.int (bi_I M a k) :: r) M
    | 1 => bi_nxc (Nat.beq (bi_kd M a).1 c) pc lv (.int (bi_I M a k) :: r) M
    | 2 => bi_nxc (Nat.beq (bi_kd M a).1 c) pc lv (.long (bi_L M a k) :: r) M
    | 3 => bi_nxc (Nat.beq (bi_kd M a).1 c && (bi_P M a k).isSome) pc lv (.ref ((bi_P M a k).getD 0) :: r) M
    | _ => none)
  | _, _ => none
/-- a final field is put by a constructor of its class alone -/
def bi_fok (j c k : Nat) : Bool := !(bi_ft c k).2 || ((bi_mi j).2.2.2 && Nat.beq (bi_mi j).1 c)
def bi_putf (j o i pc : Nat) (lv : bi_Lv) (st : List Value) (M : bi_Mem) : Option (Bool × bi_R) := match bi_lf o i, st with
  | some (c, k), v :: .ref a :: r => (match (bi_ft c k).1, v with
    | 0, .int x => bi_nxc (Nat.beq (bi_kd M a).1 c && bi_fok j c k) pc lv r (bi_setI M (bi_up (bi_I M) a k x))
    | 1, .int x => bi_nxc (Nat.beq (bi_kd M a).1 c && bi_fok j c k && (decide (x = 0) || decide (x = 1))) pc lv r (bi_setI M (bi_up (bi_I M) a k x))
    | 2, .long x => bi_nxc (Nat.beq (bi_kd M a).1 c && bi_fok j c k) pc lv r (bi_setL M (bi_up (bi_L M) a k x))
    | 3, .ref x => bi_nxc (Nat.beq (bi_kd M a).1 c && bi_fok j c k) pc lv r (bi_setP M (bi_up (bi_P M) a k (some x)))
    | _, _ => none)
  | _, _ => none
/-- 4999: the script, of X.1 ints X.2 -/
abbrev bi_X : Type := Nat × (Nat → Int32)
def bi_iald (X : bi_X) (pc : Nat) (lv : bi_Lv) (st : List Value) (M : bi_Mem) : Option (Bool × bi_R) := match st with
  | .int i :: .ref a :: r => bif Nat.beq a 4999 then bi_nxc (bi_in i X.1) pc lv (.int (X.2 i.toNatClampNeg) :: r) M
      else bi_nxc (Nat.beq (bi_kd M a).1 14 && bi_in i (bi_kd M a).2) pc lv (.int (bi_I M a i.toNatClampNeg) :: r) M
  | _ => none
def bi_bald (pc : Nat) (lv : bi_Lv) (st : List Value) (M : bi_Mem) : Option (Bool × bi_R) := match st with
  | .int i :: .ref a :: r => bi_nxc ((Nat.beq (bi_kd M a).1 13 || Nat.beq (bi_kd M a).1 15) && bi_in i (bi_kd M a).2) pc lv (.int (bi_I M a i.toNatClampNeg) :: r) M
  | _ => none
def bi_lald (pc : Nat) (lv : bi_Lv) (st : List Value) (M : bi_Mem) : Option (Bool × bi_R) := match st with
  | .int i :: .ref a :: r => bi_nxc (Nat.beq (bi_kd M a).1 17 && bi_in i (bi_kd M a).2) pc lv (.long (bi_L M a i.toNatClampNeg) :: r) M
  | _ => none
def bi_aald (pc : Nat) (lv : bi_Lv) (st : List Value) (M : bi_Mem) : Option (Bool × bi_R) := match st with
  | .int i :: .ref a :: r => bi_nxc (Nat.beq (bi_kd M a).1 16 && bi_in i (bi_kd M a).2 && (bi_P M a i.toNatClampNeg).isSome) pc lv (.ref ((bi_P M a i.toNatClampNeg).getD 0) :: r) M
  | _ => none
def bi_iast (pc : Nat) (lv : bi_Lv) (st : List Value) (M : bi_Mem) : Option (Bool × bi_R) := match st with
  | .int x :: .int i :: .ref a :: r => bi_nxc (Nat.beq (bi_kd M a).1 14 && bi_in i (bi_kd M a).2) pc lv r (bi_setI M (bi_up (bi_I M) a i.toNatClampNeg x))
  | _ => none
/-- bytes alone keep eight bits, booleans one -/
def bi_nar (k : Nat) (x : Int32) : Int32 := bif Nat.beq k 13 then vp_nar .byte x else vp_nar .boolean x
def bi_bast (pc : Nat) (lv : bi_Lv) (st : List Value) (M : bi_Mem) : Option (Bool × bi_R) := match st with
  | .int x :: .int i :: .ref a :: r => bi_nxc ((Nat.beq (bi_kd M a).1 13 || Nat.beq (bi_kd M a).1 15) && bi_in i (bi_kd M a).2) pc lv r (bi_setI M (bi_up (bi_I M) a i.toNatClampNeg (bi_nar (bi_kd M a).1 x)))
  | _ => none
def bi_last (pc : Nat) (lv : bi_Lv) (st : List Value) (M : bi_Mem) : Option (Bool × bi_R) := match st with
  | .long x :: .int i :: .ref a :: r => bi_nxc (Nat.beq (bi_kd M a).1 17 && bi_in i (bi_kd M a).2) pc lv r (bi_setL M (bi_up (bi_L M) a i.toNatClampNeg x))
  | _ => none
def bi_aast (pc : Nat) (lv : bi_Lv) (st : List Value) (M : bi_Mem) : Option (Bool × bi_R) := match st with
  | .ref x :: .int i :: .ref a :: r => bi_nxc (Nat.beq (bi_kd M a).1 16 && bi_in i (bi_kd M a).2 && Nat.beq (bi_kd M x).1 7) pc lv r (bi_setP M (bi_up (bi_P M) a i.toNatClampNeg (some x)))
  | _ => none
def bi_alen (X : bi_X) (pc : Nat) (lv : bi_Lv) (st : List Value) (M : bi_Mem) : Option (Bool × bi_R) := match st with
  | .ref a :: r => bif Nat.beq a 4999 then bi_nx pc lv (.int (Int32.ofNat X.1) :: r) M else bi_nxc (Nat.blt 12 (bi_kd M a).1 && Nat.blt (bi_kd M a).1 18) pc lv (.int (Int32.ofNat (bi_kd M a).2) :: r) M
  | _ => none
def bi_cats (st : List Value) : Bool := Nat.ble ((st.map fun v => v.category).sum) 8
/-- while nothing has been thrown yet: a new cell -/
def bi_new1 (q : Nat × Nat) (pc : Nat) (lv : bi_Lv) (st : List Value) (M : bi_Mem) : Option (Bool × bi_R) :=
  bi_nxc (Nat.beq M.2.1.1 M.1.length && Nat.blt M.1.length 4999) pc lv (.ref M.1.length :: st) (bi_mk M q)
def bi_new (j o i pc : Nat) (lv : bi_Lv) (st : List Value) (M : bi_Mem) : Option (Bool × bi_R) := match bi_lc o i with
  | some c => bif Nat.blt c 13 then bi_new1 (c, bi_nf c) (pc + 3) lv st M
      else match bi_fe j (pc + 3), bi_fe j (pc + 4), bi_fe j (pc + 7) with
        | some (.dup, 1), some (.invokespecial ic, 3), some (.athrow, 1) => some (Nat.beq o 11 && (Nat.beq c 100 && Nat.beq i 179 && Nat.beq ic 181 || Nat.beq c 101 && Nat.beq i 339 && Nat.beq ic 341) && bi_cats st, .inr (.inr (.inl (c, bi_ex1 M))))
        | _, _, _ => none
  | none => none
def bi_at (t : ArrayType) : Nat := match t with
  | .boolean => 15
  | .byte => 13
  | .int => 14
  | .long => 17
  | _ => 99
def bi_newa (t : ArrayType) (pc : Nat) (lv : bi_Lv) (st : List Value) (M : bi_Mem) : Option (Bool × bi_R) := match st with
  | .int n :: r => some (Nat.beq M.2.1.1 M.1.length && Nat.blt M.1.length 4999 && (!(decide (n < 0)) && Nat.blt n.toNatClampNeg 65536 && Nat.blt (bi_at t) 99), .inl (pc, lv, .ref M.1.length :: r, bi_mk M (bi_at t, n.toNatClampNeg)))
  | _ => none
def bi_anew (o i pc : Nat) (lv : bi_Lv) (st : List Value) (M : bi_Mem) : Option (Bool × bi_R) := match st with
  | .int n :: r => some (Nat.beq M.2.1.1 M.1.length && Nat.blt M.1.length 4999 && (!(decide (n < 0)) && Nat.blt n.toNatClampNeg 65536 && Nat.beq o 3 && Nat.beq i 11), .inl (pc, lv, .ref M.1.length :: r, bi_mk M (16, n.toNatClampNeg)))
  | _ => none
/-- the arguments on the stack, the last one on top -/
def bi_args : Nat → List Value → List Value → Option (List Value × List Value)
  | 0, acc, st => some (acc, st)
  | n + 1, acc, v :: st => bi_args n (v :: acc) st
  | _ + 1, _, [] => none
/-- the copying of ints from one row into another, or the same -/
def bi_copy (pc : Nat) (lv : bi_Lv) (st : List Value) (M : bi_Mem) : Option (Bool × bi_R) := match st with
  | .int n :: .int dp :: .ref b :: .int sp :: .ref a :: r =>
    some (Nat.beq (bi_kd M a).1 14 && Nat.beq (bi_kd M b).1 14 && (!(decide (n < 0)) && !(decide (sp < 0)) && !(decide (dp < 0))) && (Nat.ble (sp.toNatClampNeg + n.toNatClampNeg) (bi_kd M a).2 && Nat.ble (dp.toNatClampNeg + n.toNatClampNeg) (bi_kd M b).2) && bi_cats r,
      .inl (pc, lv, r, bi_setI M (bi_row (bi_I M) b (va_cpy (bi_I M a) (bi_I M b) sp.toNatClampNeg dp.toNatClampNeg n.toNatClampNeg))))
  | _ => none
def bi_slen (pc : Nat) (lv : bi_Lv) (st : List Value) (M : bi_Mem) : Option (Bool × bi_R) := match st with
  | .ref a :: r => bi_nxc (Nat.ble 5000 a && Nat.blt a 5025 && bi_cats r) pc lv (.int (Int32.ofNat ((bi_TX.getD (a - 5000) []).length)) :: r) M
  | _ => none
def bi_chat (pc : Nat) (lv : bi_Lv) (st : List Value) (M : bi_Mem) : Option (Bool × bi_R) := match st with
  | .int i :: .ref a :: r => bi_nxc (Nat.ble 5000 a && Nat.blt a 5025 && bi_in i ((bi_TX.getD (a - 5000) []).length) && bi_cats r) pc lv (.int (Int32.ofNat ((bi_TX.getD (a - 5000) []).getD i.toNatClampNeg 0)) :: r) M
  | _ => none
/-- a call of the method j that k names (V: of an object) -/
def bi_a1 (as : List Value) : Bool := as.all (fun v => Nat.beq v.category 1)
def bi_call (V : Bool) (j : Nat) (st : List Value) (M : bi_Mem) : Option (Bool × bi_R) := match bi_args (bi_na j) [] st with
  | some (as, r) => bif V then (match r with
      | .ref a :: r => some (Nat.beq (bi_kd M a).1 (bi_mi j).1 && bi_cats r && bi_a1 as, .inr (.inr (.inr (j, .ref a :: as, r, M))))
      | _ => none)
    else some (bi_cats r && bi_a1 as, .inr (.inr (.inr (j, as, r, M))))
  | none => none
def bi_inv (o i pc : Nat) (V : Nat) (lv : bi_Lv) (st : List Value) (M : bi_Mem) : Option (Bool × bi_R) := match bi_lm o i with
  | some (k, j) => (match V, k with
    | 0, 0 => bi_call true j st M
    | 0, 8 => bi_slen (pc + 3) lv st M
    | 0, 9 => bi_chat (pc + 3) lv st M
    | 1, 1 => bi_call false j st M
    | 1, 3 => bi_call false j st M
    | 1, 5 => bi_call false j st M
    | 1, 7 => bi_copy (pc + 3) lv st M
    | 2, 2 => bi_call true j st M
    | 2, 4 => bi_call true j st M
    | 2, 6 => (match st with
      | .ref _ :: r => bi_nxc (bi_cats r) (pc + 3) lv r M
      | _ => none)
    | _, _ => none)
  | none => none
def bi_bool (x : Int32) : Bool := decide (x = 0) || decide (x = 1)
def bi_iret (j : Nat) (st : List Value) (M : bi_Mem) : Option (Bool × bi_R) := match (bi_mi j).2.2.1, st with
  | 1, [.int x] => some (true, .inr (.inl (some (.int x), M)))
  | 2, [.int x] => some (bi_bool x, .inr (.inl (some (.int x), M)))
  | _, _ => none
def bi_lret (j : Nat) (st : List Value) (M : bi_Mem) : Option (Bool × bi_R) := match (bi_mi j).2.2.1, st with
  | 3, [.long x] => some (true, .inr (.inl (some (.long x), M)))
  | _, _ => none
def bi_vret (j : Nat) (M : bi_Mem) : Option (Bool × bi_R) := match (bi_mi j).2.2.1 with
  | 0 => some (true, .inr (.inl (none, M)))
  | _ => none
def bi_ldc (o i pc : Nat) (lv : bi_Lv) (st : List Value) (M : bi_Mem) : Option (Bool × bi_R) := match bi_lq o i with
  | some v => bi_nx pc lv (v :: st) M
  | none => none
def bi_dup (pc : Nat) (lv : bi_Lv) (st : List Value) (M : bi_Mem) : Option (Bool × bi_R) := match st with
  | v :: r => bi_nxc (Nat.beq v.category 1) pc lv (v :: v :: r) M
  | _ => none
def bi_dup2 (pc : Nat) (lv : bi_Lv) (st : List Value) (M : bi_Mem) : Option (Bool × bi_R) := match st with
  | v :: w :: r => bi_nxc (Nat.beq v.category 1 && Nat.beq w.category 1) pc lv (v :: w :: v :: w :: r) M
  | _ => none
def bi_pop (pc : Nat) (lv : bi_Lv) (st : List Value) (M : bi_Mem) : Option (Bool × bi_R) := match st with
  | v :: r => bi_nxc (Nat.beq v.category 1) pc lv r M
  | _ => none
def bi_i2l (pc : Nat) (lv : bi_Lv) (st : List Value) (M : bi_Mem) : Option (Bool × bi_R) := match st with
  | .int x :: r => bi_nx pc lv (.long x.toInt64 :: r) M
  | _ => none
def bi_l2i (pc : Nat) (lv : bi_Lv) (st : List Value) (M : bi_Mem) : Option (Bool × bi_R) := match st with
  | .long x :: r => bi_nx pc lv (.int x.toInt32 :: r) M
  | _ => none
def bi_lcmp (pc : Nat) (lv : bi_Lv) (st : List Value) (M : bi_Mem) : Option (Bool × bi_R) := match st with
  | .long y :: .long x :: r => bi_nx pc lv (.int (lg_cmp x y) :: r) M
  | _ => none
def bi_lshl (pc : Nat) (lv : bi_Lv) (st : List Value) (M : bi_Mem) : Option (Bool × bi_R) := match st with
  | .int y :: .long x :: r => bi_nx pc lv (.long (x <<< (y.toInt64 &&& 63)) :: r) M
  | _ => none
/-- one instruction of the method j -/
def bi_step (X : bi_X) (j : Nat) (i : Instr) (pc : Nat) (lv : bi_Lv) (st : List Value) (M : bi_Mem) : Option (Bool × bi_R) := match i with
  | .aload k => bi_ldA k (pc + 2) lv st M
  | .aload_n k => bi_ldA k.val (pc + 1) lv st M
  | .iload k => bi_ldI k (pc + 2) lv st M
  | .iload_n k => bi_ldI k.val (pc + 1) lv st M
  | .lload k => bi_ldL k (pc + 2) lv st M
  | .lload_n k => bi_ldL k.val (pc + 1) lv st M
  | .astore k => bi_stA (bi_mi j).2.1 k (pc + 2) lv st M
  | .astore_n k => bi_stA (bi_mi j).2.1 k.val (pc + 1) lv st M
  | .istore k => bi_stI (bi_mi j).2.1 k (pc + 2) lv st M
  | .istore_n k => bi_stI (bi_mi j).2.1 k.val (pc + 1) lv st M
  | .lstore k => bi_stL (bi_mi j).2.1 k (pc + 2) lv st M
  | .lstore_n k => bi_stL (bi_mi j).2.1 k.val (pc + 1) lv st M
  | .iconst n => bi_nx (pc + 1) lv (.int (Int32.ofInt n) :: st) M
  | .bipush n => bi_nx (pc + 2) lv (.int (Int8.ofInt n).toInt32 :: st) M
  | .sipush n => bi_nx (pc + 3) lv (.int (Int16.ofInt n).toInt32 :: st) M
  | .lconst n => bi_nx (pc + 1) lv (.long (Int64.ofNat n.val) :: st) M
  | .ldc k => bi_ldc (bi_mi j).1 k (pc + 2) lv st M
  | .ldc_w k => bi_ldc (bi_mi j).1 k (pc + 3) lv st M
  | .ldc2_w k => bi_ldc (bi_mi j).1 k (pc + 3) lv st M
  | .iinc k w => bi_iinc (bi_mi j).2.1 k w (pc + 3) lv st M
  | .iadd => bi_op2 (fun x y => x + y) (pc + 1) lv st M
  | .isub => bi_op2 (fun x y => x - y) (pc + 1) lv st M
  | .imul => bi_op2 (fun x y => x * y) (pc + 1) lv st M
  | .iand => bi_op2 (fun x y => x &&& y) (pc + 1) lv st M
  | .ior => bi_op2 (fun x y => x ||| y) (pc + 1) lv st M
  | .ixor => bi_op2 (fun x y => x ^^^ y) (pc + 1) lv st M
  | .ishl => bi_op2 (fun x y => x <<< (y &&& 31)) (pc + 1) lv st M
  | .ishr => bi_op2 (fun x y => x >>> (y &&& 31)) (pc + 1) lv st M
  | .iushr => bi_op2 (fun x y => (x.toUInt32 >>> (y.toUInt32 &&& Int32.toUInt32 31)).toInt32) (pc + 1) lv st M
  | .idiv => bi_op2d (fun x y => x / y) (pc + 1) lv st M
  | .irem => bi_op2d (fun x y => x - x / y * y) (pc + 1) lv st M
  | .ineg => bi_op1 (fun x => -x) (pc + 1) lv st M
  | .i2b => bi_op1 (fun x => x.toInt8.toInt32) (pc + 1) lv st M
  | .i2l => bi_i2l (pc + 1) lv st M
  | .l2i => bi_l2i (pc + 1) lv st M
  | .lor => bi_opL (fun x y => x ||| y) (pc + 1) lv st M
  | .lsub => bi_opL (fun x y => x - y) (pc + 1) lv st M
  | .lshl => bi_lshl (pc + 1) lv st M
  | .lcmp => bi_lcmp (pc + 1) lv st M
  | .dup => bi_dup (pc + 1) lv st M
  | .dup2 => bi_dup2 (pc + 1) lv st M
  | .pop => bi_pop (pc + 1) lv st M
  | .goto off => bi_go pc off lv st M
  | .ifCond c off => bi_if1 c pc off lv st M
  | .if_icmp c off => bi_if2 c pc off lv st M
  | .tableswitch d lo hi offs => bi_sw d lo hi offs pc lv st M
  | .getfield k => bi_getf (bi_mi j).1 k (pc + 3) lv st M
  | .putfield k => bi_putf j (bi_mi j).1 k (pc + 3) lv st M
  | .iaload => bi_iald X (pc + 1) lv st M
  | .baload => bi_bald (pc + 1) lv st M
  | .laload => bi_lald (pc + 1) lv st M
  | .aaload => bi_aald (pc + 1) lv st M
  | .iastore => bi_iast (pc + 1) lv st M
  | .bastore => bi_bast (pc + 1) lv st M
  | .lastore => bi_last (pc + 1) lv st M
  | .aastore => bi_aast (pc + 1) lv st M
  | .arraylength => bi_alen X (pc + 1) lv st M
  | .new k => bi_new j (bi_mi j).1 k pc lv st M
  | .newarray t => bi_newa t (pc + 2) lv st M
  | .anewarray k => bi_anew (bi_mi j).1 k (pc + 3) lv st M
  | .invokevirtual k => bi_inv (bi_mi j).1 k pc 0 lv st M
  | .invokestatic k => bi_inv (bi_mi j).1 k pc 1 lv st M
  | .invokespecial k => bi_inv (bi_mi j).1 k pc 2 lv st M
  | .ireturn => bi_iret j st M
  | .lreturn => bi_lret j st M
  | .return_ => bi_vret j M
  | _ => none
def bi_stp (X : bi_X) (j pc : Nat) (lv : bi_Lv) (st : List Value) (M : bi_Mem) : Option (Bool × bi_R) := match bi_fe j pc with
  | some (i, _) => bi_step X j i pc lv st M
  | none => none
/-- where the exception E at pc of the method j is caught: where it goes on, which local is taken -/
def bi_hnd (j pc E : Nat) : Option (Nat × Nat) := match bi_lk j bi_HT with
  | some rows => (match rows.find? (fun q => Nat.ble q.1 pc && Nat.blt pc q.2.1 && Nat.beq q.2.2.1 E) with
    | some q => some (q.2.2.2.1, q.2.2.2.2)
    | none => none)
  | none => none
/-- the locals at a method's beginning -/
abbrev bi_ent (as : List Value) : bi_Lv := lv_args 0 as
abbrev bi_Out : Type := (Option Value ⊕ Nat) × bi_Mem
/-- the method j from there to its end: at most n instructions and calls, d calls deep -/
def bi_ex (X : bi_X) : Nat → Nat → Nat → bi_S → Option bi_Out
  | 0, _, _, _ => none
  | n + 1, d, j, (pc, lv, st, M) => match bi_stp X j pc lv st M with
    | some (true, .inl s) => bi_ex X n d j s
    | some (true, .inr (.inl (v, M'))) => some (.inl v, M')
    | some (true, .inr (.inr (.inl (E, M')))) => some (.inr E, M')
    | some (true, .inr (.inr (.inr (j', as, r, M')))) => (match d with
      | 0 => none
      | d' + 1 => (match bi_ex X n d' j' (0, bi_ent as, [], M') with
        | some (.inl v, M2) => bi_ex X n (d' + 1) j (pc + 3, lv, v.toList ++ r, M2)
        | some (.inr E, M2) => (match bi_hnd j pc E with
          | some (pc', k) => bi_ex X n (d' + 1) j (pc', bi_drop lv k, [], M2)
          | none => some (.inr E, M2))
        | none => none))
    | _ => none
