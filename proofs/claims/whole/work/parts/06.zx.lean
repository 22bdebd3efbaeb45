/-! THE SMALL MACHINE: a function with fuel over a heap of numbered objects; ints are mathematical and kept in range -/
abbrev zV : Type := Int ⊕ Option Nat
abbrev zM : Type := Nat → Int → Int
abbrev zR : Type := Nat → Int → Option Nat
abbrev zH : Type := List (Nat × Nat) × zM × zR
def zget : List zV → Nat → zV
  | [], _ => .inr none
  | v :: _, 0 => v
  | _ :: l, n + 1 => zget l n
def zset : List zV → Nat → zV → List zV
  | [], _, _ => []
  | _ :: l, 0, x => x :: l
  | v :: l, n + 1, x => v :: zset l n x
/-- one slot of one object -/
def zu (f : zM) (o : Nat) (i : Int) (v : Int) : zM := fun p => if p = o then (fun j => if j = i then v else f o j) else f p
def zuR (f : zR) (o : Nat) (i : Int) (v : Option Nat) : zR := fun p => if p = o then (fun j => if j = i then v else f o j) else f p
/-- a new object's slots -/
def zclr (f : zM) (o : Nat) : zM := fun p => if p = o then (fun _ => 0) else f p
def zclrR (f : zR) (o : Nat) : zR := fun p => if p = o then (fun _ => none) else f p
/-- n slots of p from sp on go to q from dp on -/
def zcp (f : zM) (p : Nat) (sp : Int) (q : Nat) (dp n : Int) : zM := fun o => if o = q then (fun j => if dp ≤ j ∧ j < dp + n then f p (sp + (j - dp)) else f q j) else f o
def zand (a b : Int) : Int := (Int32.ofInt a &&& Int32.ofInt b).toInt
def zor (a b : Int) : Int := (Int32.ofInt a ||| Int32.ofInt b).toInt
def zxor (a b : Int) : Int := (Int32.ofInt a ^^^ Int32.ofInt b).toInt
def zshl (a b : Int) : Int := (Int32.ofInt a <<< (Int32.ofInt b &&& 31)).toInt
def zshr (a b : Int) : Int := (Int32.ofInt a >>> (Int32.ofInt b &&& 31)).toInt
abbrev zS : Nat := 1000000
abbrev zE : Type := Option (Nat × (Int → Int))
def zs (ext : zE) (i : Instr) (ls st : List zV) (h : zH) : Option (List zV × List zV × zH) := match i with
  | .iload k => match zget ls k with
    | .inl x => some (ls, .inl x :: st, h)
    | _ => none
  | .aload k => match zget ls k with
    | .inr (some o) => some (ls, .inr (some o) :: st, h)
    | _ => none
  | .istore k => match st with
    | .inl x :: st => if k < ls.length then some (zset ls k (.inl x), st, h) else none
    | _ => none
  | .astore k => match st with
    | .inr (some o) :: st => if k < ls.length then some (zset ls k (.inr (some o)), st, h) else none
    | _ => none
  | .iinc k c => match zget ls k with
    | .inl x => if zI (x + c) ∧ k < ls.length then some (zset ls k (.inl (x + c)), st, h) else none
    | _ => none
  | .iconst c => if zI c then some (ls, .inl c :: st, h) else none
  | .dup => match st with
    | v :: st => some (ls, v :: v :: st, h)
    | _ => none
  | .dup2 => match st with
    | v :: w :: st => some (ls, v :: w :: v :: w :: st, h)
    | _ => none
  | .pop => match st with
    | _ :: st => some (ls, st, h)
    | _ => none
  | .iadd => match st with
    | .inl b :: .inl a :: st => if zI (a + b) then some (ls, .inl (a + b) :: st, h) else none
    | _ => none
  | .isub => match st with
    | .inl b :: .inl a :: st => if zI (a - b) then some (ls, .inl (a - b) :: st, h) else none
    | _ => none
  | .imul => match st with
    | .inl b :: .inl a :: st => if zI (a * b) then some (ls, .inl (a * b) :: st, h) else none
    | _ => none
  | .idiv => match st with
    | .inl b :: .inl a :: st => if b ≠ 0 ∧ zI (a.tdiv b) then some (ls, .inl (a.tdiv b) :: st, h) else none
    | _ => none
  | .irem => match st with
    | .inl b :: .inl a :: st => if b ≠ 0 ∧ zI (a.tdiv b) ∧ zI (a.tmod b) then some (ls, .inl (a.tmod b) :: st, h) else none
    | _ => none
  | .ineg => match st with
    | .inl a :: st => if zI (-a) then some (ls, .inl (-a) :: st, h) else none
    | _ => none
  | .iand => match st with
    | .inl b :: .inl a :: st => some (ls, .inl (zand a b) :: st, h)
    | _ => none
  | .ior => match st with
    | .inl b :: .inl a :: st => some (ls, .inl (zor a b) :: st, h)
    | _ => none
  | .ixor => match st with
    | .inl b :: .inl a :: st => some (ls, .inl (zxor a b) :: st, h)
    | _ => none
  | .ishl => match st with
    | .inl b :: .inl a :: st => some (ls, .inl (zshl a b) :: st, h)
    | _ => none
  | .ishr => match st with
    | .inl b :: .inl a :: st => some (ls, .inl (zshr a b) :: st, h)
    | _ => none
  -- a field of a number: read, written
  | .invokeinterface ci k => match st with
    | .inr (some o) :: st => if h.1[o]? = some (ci + 3, 0) then some (ls, .inl (h.2.1 o k) :: st, h) else none
    | _ => none
  | .multianewarray ci k => match st with
    | .inl v :: .inr (some o) :: st => if h.1[o]? = some (ci + 3, 0) then some (ls, st, h.1, zu h.2.1 o k v, h.2.2) else none
    | _ => none
  -- a field of a reference: read, written
  | .getstatic f => match st with
    | .inr (some o) :: st => if h.1[o]? = some (f / 64 + 3, 0) then (match h.2.2 o (f % 64 : Nat) with
      | some p => some (ls, .inr (some p) :: st, h)
      | none => none) else none
    | _ => none
  | .putstatic f => match st with
    | .inr (some p) :: .inr (some o) :: st => if h.1[o]? = some (f / 64 + 3, 0) then some (ls, st, h.1, h.2.1, zuR h.2.2 o (f % 64 : Nat) (some p)) else none
    | _ => none
  | .iaload => match st with
    | .inl i :: .inr (some o) :: st => (match h.1[o]? with
      | some (0, n) => if 0 ≤ i ∧ i < n then some (ls, .inl (h.2.1 o i) :: st, h) else none
      | some _ => none
      | none => (match ext with
        | some (n, xs) => if o = zS ∧ 0 ≤ i ∧ i < n then some (ls, .inl (xs i) :: st, h) else none
        | none => none))
    | _ => none
  | .iastore => match st with
    | .inl v :: .inl i :: .inr (some o) :: st => (match h.1[o]? with
      | some (0, n) => if 0 ≤ i ∧ i < n then some (ls, st, h.1, zu h.2.1 o i v, h.2.2) else none
      | _ => none)
    | _ => none
  | .baload => match st with
    | .inl i :: .inr (some o) :: st => (match h.1[o]? with
      | some (1, n) => if 0 ≤ i ∧ i < n then some (ls, .inl (h.2.1 o i) :: st, h) else none
      | _ => none)
    | _ => none
  | .bastore => match st with
    | .inl v :: .inl i :: .inr (some o) :: st => (match h.1[o]? with
      | some (1, n) => if 0 ≤ i ∧ i < n ∧ (v = 0 ∨ v = 1) then some (ls, st, h.1, zu h.2.1 o i v, h.2.2) else none
      | _ => none)
    | _ => none
  | .aaload => match st with
    | .inl i :: .inr (some o) :: st => (match h.1[o]? with
      | some (2, n) => if 0 ≤ i ∧ i < n then (match h.2.2 o i with
        | some p => some (ls, .inr (some p) :: st, h)
        | none => none) else none
      | _ => none)
    | _ => none
  | .aastore => match st with
    | .inr (some p) :: .inl i :: .inr (some o) :: st => (match h.1[o]? with
      | some (2, n) => if 0 ≤ i ∧ i < n ∧ h.1[p]? = some (8, 0) then some (ls, st, h.1, h.2.1, zuR h.2.2 o i (some p)) else none
      | _ => none)
    | _ => none
  | .arraylength => match st with
    | .inr (some o) :: st => (match h.1[o]? with
      | some (0, n) => if zI n then some (ls, .inl n :: st, h) else none
      | some _ => none
      | none => (match ext with
        | some (n, _) => if o = zS ∧ zI n then some (ls, .inl n :: st, h) else none
        | none => none))
    | _ => none
  | .new ci => if ci < 8 ∧ h.1.length < 1000000 then some (ls, .inr (some h.1.length) :: st, h.1 ++ [(ci + 3, 0)], zclr h.2.1 h.1.length, zclrR h.2.2 h.1.length) else none
  | .newarray .int => match st with
    | .inl n :: st => if 0 ≤ n ∧ n ≤ 100000 ∧ h.1.length < 1000000 then some (ls, .inr (some h.1.length) :: st, h.1 ++ [(0, n.toNat)], zclr h.2.1 h.1.length, zclrR h.2.2 h.1.length) else none
    | _ => none
  | .newarray .boolean => match st with
    | .inl n :: st => if 0 ≤ n ∧ n ≤ 100000 ∧ h.1.length < 1000000 then some (ls, .inr (some h.1.length) :: st, h.1 ++ [(1, n.toNat)], zclr h.2.1 h.1.length, zclrR h.2.2 h.1.length) else none
    | _ => none
  | .anewarray _ => match st with
    | .inl n :: st => if 0 ≤ n ∧ n ≤ 100000 ∧ h.1.length < 1000000 then some (ls, .inr (some h.1.length) :: st, h.1 ++ [(2, n.toNat)], zclr h.2.1 h.1.length, zclrR h.2.2 h.1.length) else none
    | _ => none
  -- Object's constructor, Math.max, Math.min, System.arraycopy
  | .lneg => match st with
    | .inr (some o) :: st => if st.length ≤ 8 ∧ o < h.1.length then some (ls, st, h) else none
    | _ => none
  | .lmul => match st with
    | .inl b :: .inl a :: st => if st.length ≤ 8 then some (ls, .inl (max a b) :: st, h) else none
    | _ => none
  | .ldiv => match st with
    | .inl b :: .inl a :: st => if st.length ≤ 8 then some (ls, .inl (min a b) :: st, h) else none
    | _ => none
  | .lshl => match st with
    | .inl n :: .inl dp :: .inr (some q) :: .inl sp :: .inr (some p) :: st => (match h.1[p]?, h.1[q]? with
      | some (0, np), some (0, nq) => if 0 ≤ sp ∧ 0 ≤ dp ∧ 0 ≤ n ∧ sp + n ≤ np ∧ dp + n ≤ nq ∧ st.length ≤ 8 then some (ls, st, h.1, zcp h.2.1 p sp q dp n, h.2.2) else none
      | _, _ => none)
    | _ => none
  | _ => none
def zcb (c : Jvm.ClassFile.Cond) (a b : Int) : Bool := match c with
  | .eq => decide (a = b)
  | .ne => decide (a ≠ b)
  | .lt => decide (a < b)
  | .ge => decide (b ≤ a)
  | .gt => decide (b < a)
  | .le => decide (a ≤ b)
/-- what it returns: 0 nothing, 1 a number, 2 a truth value, 3 a reference -/
def zrk (k : Nat) : Nat := match zmt[k]? with
  | some e => (match e.2.2.2.1 with
    | none => 0
    | some .int => 1
    | some .boolean => 2
    | some _ => 3)
  | none => 2
def zrcv (kind ci : Nat) (v : Option zV) (h : zH) : Bool := match kind with
  | 0 => true
  | _ => match v with
    | some (.inr (some o)) => h.1[o]? == some (ci + 3, 0)
    | _ => false
def zpad (args : List zV) (n : Nat) : List zV := args ++ List.replicate (n - args.length) (.inr none)
def zpu (r : Option zV) (st : List zV) : List zV := match r with
  | none => st
  | some v => v :: st
def zx : Nat → Nat → zE → Nat → List Instr → List zV → List zV → zH → Option (Option zV × zH)
  | 0, _, _, _, _, _, _, _ => none
  | _ + 1, _, _, _, [], _, _, _ => none
  | n + 1, d, ext, m, i :: is, ls, st, h => match i with
    | .goto L => zx n d ext m (zpg m L) ls st h
    | .goto_w L => zx n d ext m (zpg m L) ls st h
    | .ifCond c L => match st with
      | .inl a :: st => if zcb c a 0 = true then zx n d ext m (zpg m L) ls st h else zx n d ext m is ls st h
      | _ => none
    | .if_icmp c L => match st with
      | .inl b :: .inl a :: st => if zcb c a b = true then zx n d ext m (zpg m L) ls st h else zx n d ext m is ls st h
      | _ => none
    | .tableswitch df lo hi offs => match st with
      | .inl a :: st => if a < lo ∨ hi < a then zx n d ext m (zpg m df) ls st h else zx n d ext m (zpg m (offs.getD (a - lo).toNat (-1))) ls st h
      | _ => none
    | .ireturn => match st with
      | [.inl a] => if zrk m = 1 ∨ (zrk m = 2 ∧ (a = 0 ∨ a = 1)) then some (some (.inl a), h) else none
      | _ => none
    | .areturn => match st with
      | [.inr (some a)] => if zrk m = 3 then some (some (.inr (some a)), h) else none
      | _ => none
    | .return_ => match st with
      | [] => if zrk m = 0 then some (none, h) else none
      | _ => none
    | .invokedynamic k => match d with
      | 0 => none
      | d + 1 => if (zmi k).1 ≤ st.length ∧ (st.drop (zmi k).1).length ≤ 8 ∧ zrcv (zmi k).2.1 (zmi k).2.2.1 (st.take (zmi k).1).getLast? h = true then
          (match zx n d none k (zpg k 0) (zpad (st.take (zmi k).1).reverse (zmi k).2.2.2) [] h with
          | some (r, h') => zx n (d + 1) ext m is ls (zpu r (st.drop (zmi k).1)) h'
          | none => none)
        else none
    | i => match zs ext i ls st h with
      | some (ls', st', h') => zx n d ext m is ls' st' h'
      | none => none
