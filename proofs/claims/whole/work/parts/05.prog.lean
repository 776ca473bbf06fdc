/-! ===== the blocks, held against the code ===== -/
def zlen : Instr → Nat
  | .iload _ => 2
  | .lload _ => 2
  | .aload _ => 2
  | .istore _ => 2
  | .lstore _ => 2
  | .astore _ => 2
  | .iinc _ _ => 3
  | _ => 1
def zchk (own : Nat) (a : zA) (i : Instr) (len : Nat) : Bool := match a with
  | .inl v => match v with
    | .int v => match i with
      | .iconst n => decide (Int32.ofInt n = v) && Nat.beq len 1
      | .bipush n => decide ((Int8.ofInt n).toInt32 = v) && Nat.beq len 2
      | .sipush n => decide ((Int16.ofInt n).toInt32 = v) && Nat.beq len 3
      | .ldc idx => Nat.beq len 2 && Nat.blt idx 1000 && zKI.any (fun q => Nat.beq q.1 (own * 1000 + idx) && decide (q.2.1 = v))
      | .ldc_w idx => Nat.beq len 3 && Nat.blt idx 1000 && zKI.any (fun q => Nat.beq q.1 (own * 1000 + idx) && decide (q.2.1 = v))
      | _ => false
    | .long v => match i with
      | .lconst n => decide (Int64.ofNat n.val = v) && Nat.beq len 1
      | .ldc2_w idx => Nat.beq len 3 && Nat.blt idx 1000 && zKL.any (fun q => Nat.beq q.1 (own * 1000 + idx) && decide (q.2.1 = v))
      | _ => false
    | _ => false
  | .inr x => match x with
    | .invokeinterface ci k => match i with
      | .getfield idx => Nat.beq len 3 && Nat.blt idx 1000 && zFL.any (fun q => Nat.beq q.1 (own * 1000 + idx) && Nat.beq q.2.1 ci && Nat.beq q.2.2.1 k)
      | _ => false
    | .multianewarray ci k => match i with
      | .putfield idx => Nat.beq len 3 && Nat.blt idx 1000 && zFL.any (fun q => Nat.beq q.1 (own * 1000 + idx) && Nat.beq q.2.1 ci && Nat.beq q.2.2.1 k)
      | _ => false
    | .faload => Nat.beq own 9 && decide (i = .iaload) && Nat.beq len 1
    | .monitorenter => Nat.beq own 9 && decide (i = .arraylength) && Nat.beq len 1
    | x => decide (i = x) && Nat.beq len (zlen x)
def zpcIs (pcs : List Nat) (b : Nat) (t : Int) : Bool := match pcs[b]? with
  | some p => decide (t = (p : Int))
  | none => false
def zswk (pcs : List Nat) (pc : Nat) (lo : Int) (cs : List (Int32 × Nat)) (offs : Array Int) : Bool :=
  (List.range cs.length).all (fun j => match cs[j]? with
    | some q => match offs[j]? with
      | some off => decide (q.1.toInt = lo + (j : Int)) && zpcIs pcs q.2 ((pc : Int) + off)
      | none => false
    | none => false)
def zlsk (pcs : List Nat) (pc : Nat) : List (Int32 × Nat) → List (Int × Int) → Bool
  | [], [] => true
  | q :: r, p :: t => decide (q.1.toInt = p.1) && zpcIs pcs q.2 ((pc : Int) + p.2) && zlsk pcs pc r t
  | _, _ => false
def zchkT (own : Nat) (ret : Option FieldType) (pcs : List Nat) (pc : Nat) (t : zT) (i : Instr) (len : Nat) : Bool := match t with
  | .inl (c, two, bt, bf) => match i with
    | .ifCond c' off => !two && decide (c = c') && Nat.beq len 3 && zpcIs pcs bt ((pc : Int) + off) && zpcIs pcs bf ((pc + 3 : Nat) : Int)
    | .if_icmp c' off => two && decide (c = c') && Nat.beq len 3 && zpcIs pcs bt ((pc : Int) + off) && zpcIs pcs bf ((pc + 3 : Nat) : Int)
    | _ => false
  | .inr (.inl (cs, df)) => match i with
    | .tableswitch d lo hi offs => Nat.beq offs.size cs.length && decide (hi = lo + (cs.length : Int) - 1) && zpcIs pcs df ((pc : Int) + d) && zswk pcs pc lo cs offs
    | .lookupswitch d ps => (ps.toList.zip (ps.toList.drop 1)).all (fun (a, next) => a.1 < next.1) && zpcIs pcs df ((pc : Int) + d) && zlsk pcs pc cs ps.toList
    | _ => false
  | .inr (.inr (tag, a, b)) => match tag with
    | 0 => match i with
      | .goto off => Nat.beq len 3 && zpcIs pcs a ((pc : Int) + off)
      | _ => false
    | 1 => match i with
      | .invokestatic idx => Nat.beq len 3 && Nat.blt idx 1000 && zpcIs pcs b ((pc + 3 : Nat) : Int) && (zMd a).2.2.2.2.2.1 && zML.any (fun q => Nat.beq q.1 (own * 1000 + idx) && Nat.beq q.2.1 a)
      | .invokevirtual idx => Nat.beq len 3 && Nat.blt idx 1000 && zpcIs pcs b ((pc + 3 : Nat) : Int) && !(zMd a).2.2.2.2.2.1 && zML.any (fun q => Nat.beq q.1 (own * 1000 + idx) && Nat.beq q.2.1 a)
      | _ => false
    | 2 => match i with
      | .return_ => Nat.beq len 1 && Nat.beq a 0 && decide (ret = none)
      | .ireturn => Nat.beq len 1 && ((Nat.beq a 1 && decide (ret = some .int)) || (Nat.beq a 3 && decide (ret = some .boolean)))
      | .lreturn => Nat.beq len 1 && Nat.beq a 2 && decide (ret = some .long)
      | _ => false
    | 3 => match i with
      | .invokestatic idx => Nat.beq len 3 && Nat.blt idx 1000 && zpcIs pcs b ((pc + 3 : Nat) : Int) && Nat.ble a 1 && zCL.any (fun q => Nat.beq q.1 (own * 1000 + idx))
      | _ => false
    | 4 => match i with
      | .invokestatic idx => Nat.beq len 3 && Nat.blt idx 1000 && zpcIs pcs b ((pc + 3 : Nat) : Int) && Nat.ble a 2 && zXL.any (fun q => Nat.beq q.1 (own * 1000 + idx) && Nat.beq q.2.1 a)
      | _ => false
    | _ => false
/-- a block that runs into the next one -/
def zfall (t : zT) : Option Nat := match t with
  | .inr (.inr (tag, a, b)) => match tag with
    | 0 => match b with
      | 0 => none
      | _ => some a
    | _ => none
  | _ => none
def zchkL (own : Nat) (ret : Option FieldType) (cc : ByteArray) (pcs : List Nat) (t : zT) : Nat → List zA → Bool
  | pc, [] => match zfall t with
    | some b => zpcIs pcs b (pc : Int)
    | none => match decode cc pc with
      | .ok (i, len) => zchkT own ret pcs pc t i len
      | _ => false
  | pc, a :: as => match decode cc pc with
    | .ok (i, len) => zchk own a i len && zchkL own ret cc pcs t (pc + len) as
    | _ => false
def zchkB (own : Nat) (ret : Option FieldType) (cc : ByteArray) (pcs : List Nat) (B : zB) : Bool := zchkL own ret cc pcs B.2.2 B.1 B.2.1
def zchkM (y : Nat) (bs : List zB) : Bool := bs.all (zchkB (zMd y).2.2.2.2.1 (zMd y).2.2.2.1 (zMd y).2.1 (bs.map (fun B => B.1)))

def zp_C_dig : List zB := [(0, [.inr (.iload_n 1)], .inr (.inr (1, 37, 1))),
  (4, [], .inl (.eq, false, 4, 2)),
  (7, [.inr (.aload_n 0), .inr (.invokeinterface 4 0), .inr (.iload_n 1)], .inr (.inr (1, 128, 3))),
  (15, [], .inr (.inr (0, 5, 0))),
  (18, [.inl (.int (-1))], .inr (.inr (0, 5, 1))),
  (19, [], .inr (.inr (2, 1, 0)))]
def zp_C_fill : List zB := [(0, [.inr (.iload_n 1)], .inr (.inr (1, 37, 1))),
  (4, [], .inl (.eq, false, 4, 2)),
  (7, [.inr (.aload_n 0), .inr (.invokeinterface 4 0), .inr (.iload_n 1)], .inr (.inr (1, 129, 3))),
  (15, [], .inr (.inr (0, 5, 0))),
  (18, [.inl (.int (-1))], .inr (.inr (0, 5, 1))),
  (19, [], .inr (.inr (2, 1, 0)))]
def zp_C_roof : List zB := [(0, [.inr (.iload_n 1)], .inr (.inr (1, 37, 1))),
  (4, [], .inl (.eq, false, 4, 2)),
  (7, [.inr (.aload_n 0), .inr (.invokeinterface 4 0), .inr (.iload_n 1)], .inr (.inr (1, 130, 3))),
  (15, [], .inr (.inr (0, 5, 0))),
  (18, [.inl (.int (-1))], .inr (.inr (0, 5, 1))),
  (19, [], .inr (.inr (2, 1, 0)))]
def zp_C_undo : List zB := [(0, [.inr (.aload_n 0), .inr (.invokeinterface 4 0)], .inr (.inr (1, 134, 1))),
  (7, [], .inr (.inr (2, 1, 0)))]
def zp_C_own : List zB := [(0, [.inr (.iload_n 1)], .inr (.inr (1, 37, 1))),
  (4, [], .inl (.eq, false, 4, 2)),
  (7, [.inr (.iload_n 2)], .inl (.lt, false, 4, 3)),
  (11, [.inr (.iload_n 2), .inl (.int 4)], .inl (.le, true, 5, 4)),
  (16, [.inl (.int (-1))], .inr (.inr (2, 1, 0))),
  (18, [.inr (.aload_n 0), .inr (.invokeinterface 4 0), .inr (.invokeinterface 0 1), .inr (.iload_n 1), .inr .iaload, .inr (.istore_n 3), .inr (.aload_n 0), .inr (.invokeinterface 4 0), .inr (.invokeinterface 0 1), .inr (.iload_n 1), .inr (.iload_n 2), .inr .iastore, .inr (.iload_n 3)], .inr (.inr (2, 1, 0)))]
def zp_C_rate : List zB := [(0, [.inr (.iload_n 1)], .inl (.lt, false, 2, 1)),
  (4, [.inr (.iload_n 1), .inl (.int 99)], .inl (.le, true, 3, 2)),
  (10, [.inl (.int (-1))], .inr (.inr (2, 1, 0))),
  (12, [.inr (.aload_n 0), .inr (.invokeinterface 4 0), .inr (.invokeinterface 0 5), .inr (.istore_n 2), .inr (.aload_n 0), .inr (.invokeinterface 4 0), .inr (.iload_n 1), .inr (.multianewarray 0 5), .inr (.iload_n 2)], .inr (.inr (2, 1, 0)))]
def zp_C_told : List zB := [(0, [.inr (.iload_n 1)], .inr (.inr (1, 37, 1))),
  (4, [], .inl (.ne, false, 3, 2)),
  (7, [.inl (.int (-1))], .inr (.inr (2, 1, 0))),
  (9, [.inr (.iload_n 2)], .inr (.inl ([(0, 4), (1, 5), (2, 10), (3, 11)], 18))),
  (40, [.inr (.aload_n 0), .inr (.invokeinterface 4 0), .inr (.invokeinterface 0 0), .inr (.iload_n 1), .inr .iaload], .inr (.inr (2, 1, 0))),
  (50, [.inr (.aload_n 0), .inr (.invokeinterface 4 0), .inr (.invokeinterface 0 4), .inr (.iload_n 1)], .inr (.inr (1, 153, 6))),
  (61, [], .inl (.eq, false, 8, 7)),
  (64, [.inl (.int 1)], .inr (.inr (0, 9, 0))),
  (68, [.inl (.int 0)], .inr (.inr (0, 9, 1))),
  (69, [], .inr (.inr (2, 1, 0))),
  (70, [.inr (.aload_n 0), .inr (.invokeinterface 4 0), .inr (.invokeinterface 0 1), .inr (.iload_n 1), .inr .iaload], .inr (.inr (2, 1, 0))),
  (80, [.inr (.aload_n 0), .inr (.invokeinterface 4 0), .inr (.invokeinterface 0 2), .inr (.iload_n 1)], .inr (.inr (1, 153, 12))),
  (91, [], .inl (.eq, false, 16, 13)),
  (94, [.inr (.aload_n 0), .inr (.invokeinterface 4 0), .inr (.iload_n 1)], .inr (.inr (1, 138, 14))),
  (102, [], .inr (.inr (1, 154, 15))),
  (105, [], .inr (.inr (0, 17, 0))),
  (108, [.inl (.int (-4))], .inr (.inr (0, 17, 1))),
  (110, [], .inr (.inr (2, 1, 0))),
  (111, [.inl (.int (-1))], .inr (.inr (2, 1, 0)))]
def zp_C_type : List zB := [(0, [.inr (.iload_n 1), .inl (.int 32)], .inl (.lt, true, 2, 1)),
  (6, [.inr (.iload_n 1), .inl (.int 126)], .inl (.le, true, 3, 2)),
  (12, [.inl (.int (-1))], .inr (.inr (2, 1, 0))),
  (14, [.inr (.aload_n 0), .inr (.invokeinterface 4 3), .inr (.iload_n 1), .inr .i2c], .inr (.inr (1, 174, 4))),
  (23, [], .inr (.inr (2, 1, 0)))]
def zp_C_ground : List zB := [(0, [.inr (.aload_n 0), .inr (.invokeinterface 4 3)], .inr (.inr (1, 181, 1))),
  (7, [.inr (.istore_n 1), .inr (.aload_n 0), .inr (.invokeinterface 4 3)], .inr (.inr (1, 175, 2))),
  (15, [.inr (.iload_n 1)], .inl (.eq, false, 4, 3)),
  (19, [.inr (.iload_n 1)], .inr (.inr (2, 1, 0))),
  (21, [.inr (.aload_n 0), .inr (.invokeinterface 4 0), .inr (.aload_n 0), .inr (.invokeinterface 4 3), .inr (.invokeinterface 3 3), .inr (.aload_n 0), .inr (.invokeinterface 4 3), .inr (.invokeinterface 3 4)], .inr (.inr (1, 127, 5))),
  (42, [.inr (.aload_n 0), .inr (.invokeinterface 4 0), .inr (.invokeinterface 0 2)], .inr (.inr (1, 158, 6))),
  (52, [], .inr (.inr (2, 1, 0)))]
def zp_C_owners : List zB := [(0, [.inr (.aload_n 0), .inr (.invokeinterface 4 3)], .inr (.inr (1, 182, 1))),
  (7, [.inr (.istore_n 1), .inr (.aload_n 0), .inr (.invokeinterface 4 3)], .inr (.inr (1, 175, 2))),
  (15, [.inr (.iload_n 1)], .inl (.eq, false, 4, 3)),
  (19, [.inr (.iload_n 1)], .inr (.inr (2, 1, 0))),
  (21, [.inr (.aload_n 0), .inr (.invokeinterface 4 3), .inr (.invokeinterface 3 3), .inl (.int 0), .inr (.aload_n 0), .inr (.invokeinterface 4 0), .inr (.invokeinterface 0 1), .inl (.int 0), .inl (.int 36)], .inr (.inr (3, 0, 5))),
  (42, [.inl (.int 36), .inr (.aload_n 0), .inr (.invokeinterface 4 0), .inl (.int 4)], .inr (.inr (1, 142, 6))),
  (52, [], .inr (.inr (1, 185, 7))),
  (55, [.inr .isub], .inr (.inr (2, 1, 0)))]
def zp_C_day : List zB := [(0, [.inr (.aload_n 0), .inr (.invokeinterface 4 3)], .inr (.inr (1, 183, 1))),
  (7, [.inr (.istore_n 1), .inr (.aload_n 0), .inr (.invokeinterface 4 3)], .inr (.inr (1, 175, 2))),
  (15, [.inr (.iload_n 1)], .inl (.eq, false, 4, 3)),
  (19, [.inr (.iload_n 1)], .inr (.inr (2, 1, 0))),
  (21, [.inl (.int 0), .inr (.istore_n 2)], .inr (.inr (0, 5, 1))),
  (23, [.inr (.iload_n 2), .inr (.aload_n 0), .inr (.invokeinterface 4 3), .inr (.invokeinterface 3 5)], .inl (.ge, true, 9, 6)),
  (34, [.inr (.aload_n 0), .inr (.invokeinterface 4 0), .inr (.aload_n 0), .inr (.invokeinterface 4 3), .inr (.invokeinterface 3 3), .inr (.iload_n 2), .inr .iaload], .inr (.inr (1, 131, 7))),
  (50, [], .inl (.eq, false, 9, 8)),
  (53, [.inr (.iinc 2 1)], .inr (.inr (0, 5, 0))),
  (59, [.inr (.iload_n 2)], .inr (.inr (2, 1, 0)))]
def zp_C_count : List zB := [(0, [.inr (.iload_n 1)], .inr (.inl ([(0, 1), (1, 3), (2, 5), (3, 7), (4, 8), (5, 9), (6, 11)], 13))),
  (44, [.inr (.aload_n 0), .inr (.invokeinterface 4 0), .inr (.invokeinterface 0 2)], .inr (.inr (1, 158, 2))),
  (54, [], .inr (.inr (2, 1, 0))),
  (55, [.inr (.aload_n 0), .inr (.invokeinterface 4 0), .inr (.invokeinterface 0 2)], .inr (.inr (1, 185, 4))),
  (65, [], .inr (.inr (2, 1, 0))),
  (66, [.inr (.aload_n 0), .inr (.invokeinterface 4 0), .inr (.aload_n 0), .inr (.invokeinterface 4 0), .inr (.invokeinterface 0 2), .inr (.aload_n 0), .inr (.invokeinterface 4 0), .inr (.invokeinterface 0 3)], .inr (.inr (1, 141, 6))),
  (87, [], .inr (.inr (2, 1, 0))),
  (88, [.inr (.aload_n 0), .inr (.invokeinterface 4 0), .inr (.invokeinterface 0 8)], .inr (.inr (2, 1, 0))),
  (96, [.inr (.aload_n 0), .inr (.invokeinterface 4 0), .inr (.invokeinterface 0 5)], .inr (.inr (2, 1, 0))),
  (104, [.inr (.aload_n 0), .inr (.invokeinterface 4 0), .inr (.invokeinterface 0 4)], .inr (.inr (1, 185, 10))),
  (114, [], .inr (.inr (2, 1, 0))),
  (115, [.inr (.aload_n 0), .inr (.invokeinterface 4 0)], .inr (.inr (1, 137, 12))),
  (122, [], .inr (.inr (2, 1, 0))),
  (123, [.inl (.int (-1))], .inr (.inr (2, 1, 0)))]
def zp_C_hole : List zB := [(0, [.inr (.iload_n 1)], .inr (.inr (1, 37, 1))),
  (4, [], .inl (.eq, false, 4, 2)),
  (7, [.inr (.iload_n 2)], .inl (.lt, false, 4, 3)),
  (11, [.inr (.iload_n 2), .inl (.int 7)], .inl (.le, true, 5, 4)),
  (17, [.inl (.int (-1))], .inr (.inr (2, 1, 0))),
  (19, [.inr (.aload_n 0), .inr (.invokeinterface 4 0), .inr (.iload_n 1)], .inr (.inr (1, 138, 6))),
  (27, [.inr (.lstore_n 3), .inr (.lload_n 3), .inl (.long 0), .inr .lcmp], .inl (.ne, false, 8, 7)),
  (34, [.inl (.int (-2))], .inr (.inr (2, 1, 0))),
  (37, [.inr (.iload_n 2)], .inr (.inl ([(0, 9), (1, 11), (2, 13), (3, 15), (4, 17), (5, 20), (6, 22)], 24))),
  (80, [.inr (.lload_n 3)], .inr (.inr (1, 185, 10))),
  (84, [], .inr (.inr (2, 1, 0))),
  (85, [.inr (.aload_n 0), .inr (.invokeinterface 4 0), .inr (.lload_n 3), .inr (.aload_n 0), .inr (.invokeinterface 4 0), .inr (.invokeinterface 0 3)], .inr (.inr (1, 139, 12))),
  (100, [], .inr (.inr (2, 1, 0))),
  (101, [.inr (.aload_n 0), .inr (.invokeinterface 4 0), .inr (.lload_n 3), .inr (.aload_n 0), .inr (.invokeinterface 4 0), .inr (.invokeinterface 0 3)], .inr (.inr (1, 140, 14))),
  (116, [], .inr (.inr (2, 1, 0))),
  (117, [.inr (.lload_n 3)], .inr (.inr (1, 160, 16))),
  (121, [], .inr (.inr (2, 1, 0))),
  (122, [.inr (.lload_n 3)], .inr (.inr (1, 159, 18))),
  (126, [], .inr (.inr (1, 185, 19))),
  (129, [], .inr (.inr (2, 1, 0))),
  (130, [.inr (.aload_n 0), .inr (.invokeinterface 4 0), .inr (.lload_n 3)], .inr (.inr (1, 143, 21))),
  (138, [], .inr (.inr (2, 1, 0))),
  (139, [.inr (.lload_n 3), .inr (.aload_n 0), .inr (.invokeinterface 4 0), .inr (.invokeinterface 0 2)], .inr (.inr (1, 162, 23))),
  (150, [], .inr (.inr (2, 1, 0))),
  (151, [.inr (.lload_n 3)], .inr (.inr (1, 163, 25))),
  (155, [], .inr (.inr (2, 1, 0)))]
def zp_C_cells : List zB := [(0, [.inr (.iload_n 1)], .inr (.inr (1, 37, 1))),
  (4, [], .inl (.eq, false, 4, 2)),
  (7, [.inr (.iload_n 2)], .inl (.lt, false, 4, 3)),
  (11, [.inr (.iload_n 2), .inl (.int 2)], .inl (.le, true, 5, 4)),
  (16, [.inl (.long (-1))], .inr (.inr (2, 2, 0))),
  (20, [.inr (.aload_n 0), .inr (.invokeinterface 4 0), .inr (.iload_n 1)], .inr (.inr (1, 138, 6))),
  (28, [.inr (.lstore_n 3), .inr (.lload_n 3), .inl (.long 0), .inr .lcmp], .inl (.ne, false, 8, 7)),
  (35, [.inl (.long (-2))], .inr (.inr (2, 2, 0))),
  (39, [.inr (.iload_n 2)], .inl (.ne, false, 10, 9)),
  (43, [.inr (.lload_n 3)], .inr (.inr (2, 2, 0))),
  (45, [.inr (.iload_n 2), .inl (.int 1)], .inl (.ne, true, 13, 11)),
  (50, [.inr (.lload_n 3)], .inr (.inr (1, 159, 12))),
  (54, [], .inr (.inr (0, 14, 0))),
  (57, [.inr (.lload_n 3)], .inr (.inr (1, 161, 14))),
  (61, [], .inr (.inr (2, 2, 0)))]
def zp_C_part : List zB := [(0, [.inr (.iload_n 1)], .inr (.inr (1, 37, 1))),
  (4, [], .inl (.eq, false, 4, 2)),
  (7, [.inr (.iload_n 2)], .inr (.inr (1, 38, 3))),
  (11, [], .inl (.ne, false, 5, 4)),
  (14, [.inl (.int (-1))], .inr (.inr (2, 1, 0))),
  (16, [.inr (.aload_n 0), .inr (.invokeinterface 4 0), .inr (.iload_n 1)], .inr (.inr (1, 138, 6))),
  (24, [.inr (.lstore_n 3), .inr (.lload_n 3), .inl (.long 0), .inr .lcmp], .inl (.ne, false, 8, 7)),
  (31, [.inl (.int (-2))], .inr (.inr (0, 9, 0))),
  (36, [.inr (.aload_n 0), .inr (.invokeinterface 4 0), .inr (.lload_n 3), .inr (.iload_n 2)], .inr (.inr (1, 144, 9))),
  (45, [], .inr (.inr (2, 1, 0)))]
def zp_C_pays : List zB := [(0, [.inr (.iload_n 1)], .inr (.inr (1, 38, 1))),
  (4, [], .inl (.eq, false, 4, 2)),
  (7, [.inr (.aload_n 0), .inr (.invokeinterface 4 0), .inr (.iload_n 1)], .inr (.inr (1, 145, 3))),
  (15, [], .inr (.inr (0, 5, 0))),
  (18, [.inl (.int (-1))], .inr (.inr (0, 5, 1))),
  (19, [], .inr (.inr (2, 1, 0)))]
def zp_C_worth : List zB := [(0, [.inr (.iload_n 1)], .inr (.inr (1, 38, 1))),
  (4, [], .inl (.ne, false, 3, 2)),
  (7, [.inl (.int (-100001))], .inr (.inr (2, 1, 0))),
  (10, [.inr (.aload_n 0), .inr (.invokeinterface 4 0), .inr (.invokeinterface 0 2), .inr (.aload_n 0), .inr (.invokeinterface 4 0), .inr (.iload_n 1)], .inr (.inr (1, 142, 4))),
  (25, [.inl (.long (-1)), .inr .lxor, .inr .land, .inr (.lstore_n 2), .inr (.aload_n 0), .inr (.invokeinterface 4 0), .inr (.aload_n 0), .inr (.invokeinterface 4 0), .inr (.invokeinterface 0 2), .inr (.aload_n 0), .inr (.invokeinterface 4 0), .inr (.invokeinterface 0 3)], .inr (.inr (1, 141, 5))),
  (52, [.inr (.aload_n 0), .inr (.invokeinterface 4 0), .inr (.lload_n 2), .inr (.aload_n 0), .inr (.invokeinterface 4 0), .inr (.invokeinterface 0 3)], .inr (.inr (1, 141, 6))),
  (67, [.inr .isub], .inr (.inr (2, 1, 0)))]
def zp_C_filled : List zB := [(0, [.inr (.iload_n 1)], .inl (.lt, false, 4, 1)),
  (4, [.inr (.iload_n 1), .inl (.int 9999)], .inl (.gt, true, 4, 2)),
  (11, [.inr (.iload_n 2), .inl (.int (-1))], .inl (.lt, true, 4, 3)),
  (16, [.inr (.iload_n 2), .inl (.int 1)], .inl (.le, true, 5, 4)),
  (21, [.inl (.int (-1))], .inr (.inr (2, 1, 0))),
  (23, [.inr (.aload_n 0), .inr (.invokeinterface 4 0), .inr (.iload_n 1)], .inr (.inr (1, 146, 6))),
  (31, [.inr (.iload_n 2)], .inr (.inr (1, 43, 7))),
  (35, [], .inr (.inr (2, 1, 0)))]
def zp_C_split : List zB := [(0, [.inr (.iload_n 1)], .inr (.inr (1, 37, 1))),
  (4, [], .inl (.eq, false, 4, 2)),
  (7, [.inr (.iload_n 2), .inl (.int (-1))], .inl (.lt, true, 4, 3)),
  (12, [.inr (.iload_n 2), .inl (.int 1)], .inl (.le, true, 5, 4)),
  (17, [.inl (.int (-1))], .inr (.inr (2, 1, 0))),
  (19, [.inr (.aload_n 0), .inr (.invokeinterface 4 0), .inr (.iload_n 1)], .inr (.inr (1, 138, 6))),
  (27, [.inr (.lstore_n 3), .inr (.lload_n 3), .inl (.long 0), .inr .lcmp], .inl (.ne, false, 8, 7)),
  (34, [.inl (.int (-2))], .inr (.inr (0, 10, 0))),
  (39, [.inr (.lload_n 3)], .inr (.inr (1, 167, 9))),
  (43, [.inr (.iload_n 2)], .inr (.inr (1, 43, 10))),
  (47, [], .inr (.inr (2, 1, 0)))]
def zp_C_dug : List zB := [(0, [.inr (.iload_n 1)], .inr (.inr (1, 37, 1))),
  (4, [], .inl (.eq, false, 6, 2)),
  (7, [.inr (.iload_n 2)], .inr (.inr (1, 37, 3))),
  (11, [], .inl (.eq, false, 6, 4)),
  (14, [.inr (.iload_n 3), .inl (.int (-1))], .inl (.lt, true, 6, 5)),
  (19, [.inr (.iload_n 3), .inl (.int 10)], .inl (.lt, true, 7, 6)),
  (25, [.inl (.int (-1))], .inr (.inr (2, 1, 0))),
  (27, [.inr (.aload_n 0), .inr (.invokeinterface 4 0), .inr (.iload_n 1)], .inr (.inr (1, 138, 8))),
  (35, [.inr (.lstore 4), .inr (.aload_n 0), .inr (.invokeinterface 4 0), .inr (.iload_n 2)], .inr (.inr (1, 138, 9))),
  (45, [.inr (.lstore 6), .inr (.lload 4), .inl (.long 0), .inr .lcmp], .inl (.eq, false, 12, 10)),
  (54, [.inr (.lload 6), .inl (.long 0), .inr .lcmp], .inl (.eq, false, 12, 11)),
  (61, [.inr (.lload 4), .inr (.lload 6), .inr .lcmp], .inl (.ne, false, 13, 12)),
  (69, [.inl (.int (-2))], .inr (.inr (2, 1, 0))),
  (72, [.inr (.lload 4), .inr (.lload 6), .inr (.aload_n 0), .inr (.invokeinterface 4 0), .inr (.invokeinterface 0 2)], .inr (.inr (1, 169, 14))),
  (86, [.inr (.iload_n 3)], .inr (.inr (1, 43, 15))),
  (90, [], .inr (.inr (2, 1, 0)))]
def zp_C_loophole : List zB := [(0, [.inl (.int (-4)), .inr (.istore_n 1), .inr (.aload_n 0), .inr (.invokeinterface 4 0), .inr (.aload_n 0), .inr (.invokeinterface 4 0), .inr (.invokeinterface 0 2), .inr (.aload_n 0), .inr (.invokeinterface 4 0), .inr (.invokeinterface 0 3)], .inr (.inr (1, 141, 1))),
  (24, [.inr (.istore_n 2), .inl (.int 0), .inr (.istore_n 3)], .inr (.inr (0, 2, 1))),
  (27, [.inr (.iload_n 3), .inl (.int 36)], .inl (.ge, true, 10, 3)),
  (33, [.inr (.aload_n 0), .inr (.invokeinterface 4 0), .inr (.invokeinterface 0 2), .inr (.iload_n 3)], .inr (.inr (1, 153, 4))),
  (44, [], .inl (.eq, false, 6, 5)),
  (47, [], .inr (.inr (0, 9, 0))),
  (50, [.inr (.aload_n 0), .inr (.invokeinterface 4 0), .inr (.aload_n 0), .inr (.invokeinterface 4 0), .inr (.invokeinterface 0 2), .inl (.long 1), .inr (.iload_n 3), .inr .lshl, .inr .lor, .inr (.aload_n 0), .inr (.invokeinterface 4 0), .inr (.invokeinterface 0 3)], .inr (.inr (1, 141, 7))),
  (75, [.inr (.istore 4), .inr (.iload 4), .inr (.iload_n 2)], .inl (.ge, true, 9, 8)),
  (83, [.inr (.iload 4), .inr (.istore_n 2), .inr (.iload_n 3), .inr (.istore_n 1)], .inr (.inr (0, 9, 1))),
  (88, [.inr (.iinc 3 1)], .inr (.inr (0, 2, 0))),
  (94, [.inr (.iload_n 1)], .inr (.inr (2, 1, 0)))]
def zp_C_roofs : List zB := [(0, [.inr (.iload_n 1)], .inr (.inr (1, 37, 1))),
  (4, [], .inl (.ne, false, 3, 2)),
  (7, [.inl (.int (-1))], .inr (.inr (2, 1, 0))),
  (9, [.inr (.aload_n 0), .inr (.invokeinterface 4 0), .inr (.iload_n 1)], .inr (.inr (1, 138, 4))),
  (17, [.inr (.lstore_n 2), .inr (.lload_n 2), .inl (.long 0), .inr .lcmp], .inl (.ne, false, 6, 5)),
  (24, [.inl (.int (-2))], .inr (.inr (0, 7, 0))),
  (29, [.inr (.lload_n 2), .inr (.aload_n 0), .inr (.invokeinterface 4 0), .inr (.invokeinterface 0 4), .inl (.long (-1)), .inr .lxor, .inr .land], .inr (.inr (1, 185, 7))),
  (45, [], .inr (.inr (2, 1, 0)))]
def zp_C_round : List zB := [(0, [.inr (.iload_n 1)], .inr (.inr (1, 37, 1))),
  (4, [], .inl (.eq, false, 4, 2)),
  (7, [.inr (.iload_n 2), .inl (.int (-1))], .inl (.lt, true, 4, 3)),
  (12, [.inr (.iload_n 2), .inl (.int 8)], .inl (.lt, true, 5, 4)),
  (18, [.inl (.int (-1))], .inr (.inr (2, 1, 0))),
  (20, [.inr (.aload_n 0), .inr (.invokeinterface 4 0), .inr (.invokeinterface 0 2)], .inr (.inr (1, 158, 6))),
  (30, [.inr (.istore_n 3), .inr (.iload_n 3), .inl (.int 8)], .inl (.le, true, 8, 7)),
  (37, [.inl (.int (-3))], .inr (.inr (2, 1, 0))),
  (40, [.inr (.iload_n 2), .inr (.iload_n 3)], .inl (.lt, true, 10, 9)),
  (45, [.inl (.int (-4))], .inr (.inr (2, 1, 0))),
  (48, [.inr (.aload_n 0), .inr (.invokeinterface 4 5), .inr (.iload_n 1), .inr (.aload_n 0), .inr (.invokeinterface 4 0), .inr (.invokeinterface 0 2)], .inr (.inr (1, 148, 11))),
  (63, [.inr (.iload_n 2)], .inl (.ge, false, 13, 12)),
  (67, [.inr (.aload_n 0), .inr (.invokeinterface 4 5), .inr (.invokeinterface 1 6)], .inr (.inr (0, 14, 0))),
  (77, [.inr (.aload_n 0), .inr (.invokeinterface 4 5), .inr (.invokeinterface 1 4), .inr (.iload_n 2), .inr .iaload], .inr (.inr (0, 14, 1))),
  (86, [], .inr (.inr (2, 1, 0)))]
def zp_C_border : List zB := [(0, [.inr (.iload_n 1)], .inl (.lt, false, 2, 1)),
  (4, [.inr (.iload_n 1), .inl (.int 1)], .inl (.le, true, 3, 2)),
  (9, [.inl (.int (-1))], .inr (.inr (2, 1, 0))),
  (11, [.inr (.aload_n 0), .inr (.invokeinterface 4 0), .inr (.invokeinterface 0 2), .inl (.long 0), .inr .lcmp], .inl (.ne, false, 5, 4)),
  (23, [.inl (.int (-4))], .inr (.inr (2, 1, 0))),
  (26, [.inr (.aload_n 0), .inr (.invokeinterface 4 0), .inr (.invokeinterface 0 2)], .inr (.inr (1, 164, 6))),
  (36, [.inr (.lstore_n 2), .inr (.iload_n 1)], .inl (.ne, false, 9, 7)),
  (41, [.inr (.lload_n 2)], .inr (.inr (1, 154, 8))),
  (45, [], .inr (.inr (0, 10, 0))),
  (48, [.inr (.lload_n 2)], .inr (.inr (1, 160, 10))),
  (52, [], .inr (.inr (2, 1, 0)))]
def zp_C_cut : List zB := [(0, [.inr (.iload_n 1)], .inr (.inr (1, 37, 1))),
  (4, [], .inl (.ne, false, 3, 2)),
  (7, [.inl (.int (-1))], .inr (.inr (2, 1, 0))),
  (9, [.inr (.aload_n 0), .inr (.invokeinterface 4 0), .inr (.iload_n 1)], .inr (.inr (1, 138, 4))),
  (17, [.inr (.lstore_n 2), .inr (.lload_n 2), .inl (.long 0), .inr .lcmp], .inl (.ne, false, 6, 5)),
  (24, [.inl (.int (-2))], .inr (.inr (0, 7, 0))),
  (29, [.inr (.lload_n 2), .inr (.aload_n 0), .inr (.invokeinterface 4 0), .inr (.invokeinterface 0 2)], .inr (.inr (1, 165, 7))),
  (40, [], .inr (.inr (2, 1, 0)))]
def zp_C_books : List zB := [(0, [.inr (.lload_n 1), .inl (.long (-68719476736)), .inr .land, .inl (.long 0), .inr .lcmp], .inl (.ne, false, 3, 1)),
  (10, [.inr (.lload_n 1)], .inr (.inr (1, 185, 2))),
  (14, [.inl (.int 6)], .inl (.le, true, 4, 3)),
  (19, [.inl (.long (-1))], .inr (.inr (2, 2, 0))),
  (23, [.inr (.iload_n 3), .inl (.int (-1))], .inl (.lt, true, 10, 5)),
  (28, [.inr (.iload_n 3), .inl (.int 36)], .inl (.gt, true, 10, 6)),
  (34, [.inr (.iload 4), .inl (.int (-1))], .inl (.lt, true, 10, 7)),
  (40, [.inr (.iload 4), .inl (.int 9999)], .inl (.gt, true, 10, 8)),
  (48, [.inr (.iload 5)], .inl (.lt, false, 10, 9)),
  (53, [.inr (.iload 5), .inl (.int 3)], .inl (.le, true, 11, 10)),
  (59, [.inl (.long (-1))], .inr (.inr (2, 2, 0))),
  (63, [.inl (.int 0), .inr (.istore 6), .inl (.long 0), .inr (.lstore 7), .inr (.lload_n 1), .inr (.lstore 9), .inl (.long 0), .inr (.lstore 11), .inl (.long 0), .inr (.lstore 13), .inl (.int 0), .inr (.istore 15)], .inr (.inr (0, 12, 1))),
  (81, [.inr (.iload 15), .inl (.int 64)], .inl (.ge, true, 22, 13)),
  (88, [.inr (.aload_n 0), .inr (.invokeinterface 4 0), .inr (.lload_n 1), .inr (.lload 13), .inr (.iload_n 3), .inr (.iload 4)], .inr (.inr (1, 147, 14))),
  (101, [], .inl (.eq, false, 19, 15)),
  (104, [.inr (.iload 6)], .inl (.ne, false, 17, 16)),
  (109, [.inr (.lload 13)], .inr (.inr (0, 18, 0))),
  (114, [.inr (.lload 7)], .inr (.inr (0, 18, 1))),
  (116, [.inr (.lstore 7), .inr (.iinc 6 1), .inr (.lload 9), .inr (.lload 13), .inr .land, .inr (.lstore 9), .inr (.lload 11), .inr (.lload 13), .inr .lor, .inr (.lstore 11)], .inr (.inr (0, 19, 1))),
  (135, [.inr (.lload 13), .inr (.lload_n 1), .inr .lsub, .inr (.lload_n 1), .inr .land, .inr (.lstore 13), .inr (.lload 13), .inl (.long 0), .inr .lcmp], .inl (.ne, false, 21, 20)),
  (150, [], .inr (.inr (0, 22, 0))),
  (153, [.inr (.iinc 15 1)], .inr (.inr (0, 12, 0))),
  (159, [.inr (.iload 5)], .inl (.ne, false, 24, 23)),
  (164, [.inr (.iload 6), .inr .i2l], .inr (.inr (2, 2, 0))),
  (168, [.inr (.iload 6)], .inl (.ne, false, 26, 25)),
  (173, [.inl (.long (-4))], .inr (.inr (2, 2, 0))),
  (177, [.inr (.iload 5), .inl (.int 1)], .inl (.ne, true, 28, 27)),
  (183, [.inr (.lload 7)], .inr (.inr (2, 2, 0))),
  (186, [.inr (.iload 5), .inl (.int 2)], .inl (.ne, true, 30, 29)),
  (192, [.inr (.lload 9)], .inr (.inr (0, 31, 0))),
  (197, [.inr (.lload_n 1), .inr (.lload 11), .inl (.long (-1)), .inr .lxor, .inr .land], .inr (.inr (0, 31, 1))),
  (205, [], .inr (.inr (2, 2, 0)))]
def zp_C_lots : List zB := [(0, [.inr (.iload_n 1), .inl (.int 1)], .inl (.lt, true, 2, 1)),
  (5, [.inr (.iload_n 1), .inl (.int 99)], .inl (.le, true, 3, 2)),
  (11, [.inl (.int (-1))], .inr (.inr (2, 1, 0))),
  (13, [.inl (.int 0), .inr (.istore_n 2), .inl (.int 0), .inr (.istore_n 3)], .inr (.inr (0, 4, 1))),
  (17, [.inr (.iload_n 3), .inr (.iload_n 1)], .inl (.ge, true, 7, 5)),
  (22, [.inr (.iload_n 2), .inr (.aload_n 0), .inr (.invokeinterface 4 0)], .inr (.inr (1, 136, 6))),
  (30, [.inr .iadd, .inr (.istore_n 2), .inr (.iinc 3 1)], .inr (.inr (0, 4, 0))),
  (38, [.inr (.aload_n 0), .inr (.invokeinterface 4 0)], .inr (.inr (1, 133, 8))),
  (45, [.inr (.iload_n 2)], .inr (.inr (2, 1, 0)))]
def zp_C_seed : List zB := [(0, [.inr (.iload_n 1)], .inl (.ge, false, 2, 1)),
  (4, [.inl (.int (-1))], .inr (.inr (2, 1, 0))),
  (6, [.inr (.aload_n 0), .inr (.invokeinterface 4 0), .inr (.invokeinterface 0 6), .inr (.istore_n 2), .inr (.aload_n 0), .inr (.invokeinterface 4 0), .inr (.iload_n 1), .inr (.multianewarray 0 6), .inr (.iload_n 2)], .inr (.inr (2, 1, 0)))]
def zp_C_image : List zB := [(0, [.inr (.aload_n 0), .inr (.invokeinterface 4 1), .inr (.aload_n 0), .inr (.invokeinterface 4 0)], .inr (.inr (1, 125, 1))),
  (11, [.inr (.aload_n 0), .inl (.int 1), .inr (.multianewarray 4 2), .inl (.int 1)], .inr (.inr (2, 1, 0)))]
def zp_C_restore : List zB := [(0, [.inr (.aload_n 0), .inr (.invokeinterface 4 2)], .inl (.ne, false, 2, 1)),
  (7, [.inl (.int (-4))], .inr (.inr (2, 1, 0))),
  (10, [.inr (.aload_n 0), .inr (.invokeinterface 4 0), .inr (.aload_n 0), .inr (.invokeinterface 4 1)], .inr (.inr (1, 125, 3))),
  (21, [.inl (.int 1)], .inr (.inr (2, 1, 0)))]
def zp_C_lay : List zB := [(0, [.inr (.iload_n 1)], .inr (.inr (1, 37, 1))),
  (4, [], .inl (.eq, false, 4, 2)),
  (7, [.inr (.iload 5), .inl (.int 1)], .inl (.lt, true, 4, 3)),
  (13, [.inr (.iload 5), .inl (.int 36), .inr (.iload_n 1), .inr .isub], .inl (.le, true, 5, 4)),
  (22, [.inl (.int (-1))], .inr (.inr (2, 1, 0))),
  (24, [.inr (.aload_n 0), .inr (.iload_n 2), .inr (.iload_n 3), .inr (.iload 4), .inr (.iload 5)], .inr (.inr (1, 41, 6))),
  (34, [.inr (.istore 6), .inr (.iload 6)], .inl (.eq, false, 8, 7)),
  (41, [.inr (.iload 6)], .inr (.inr (2, 1, 0))),
  (44, [.inr (.aload_n 0), .inr (.invokeinterface 4 4), .inr (.iload_n 2), .inr .aaload, .inr (.astore 7), .inr (.aload 7), .inr (.iload 4), .inr (.iload 5)], .inr (.inr (1, 173, 9))),
  (61, [], .inl (.ne, false, 11, 10)),
  (64, [.inl (.int (-2))], .inr (.inr (2, 1, 0))),
  (67, [.inl (.int 0), .inr (.istore 8)], .inr (.inr (0, 12, 1))),
  (70, [.inr (.iload 8), .inr (.iload 5)], .inl (.ge, true, 15, 13)),
  (77, [.inr (.aload_n 0), .inr (.invokeinterface 4 0), .inr (.iload_n 1), .inr (.iload 8), .inr .iadd, .inr (.aload 7), .inr (.invokeinterface 2 0), .inr (.iload 4), .inr (.iload 8), .inr .iadd, .inr .laload, .inr .l2i], .inr (.inr (1, 126, 14))),
  (100, [.inr (.iinc 8 1)], .inr (.inr (0, 12, 0))),
  (106, [.inr (.aload_n 0), .inr (.invokeinterface 4 0)], .inr (.inr (1, 133, 16))),
  (113, [.inr (.iload 5)], .inr (.inr (2, 1, 0)))]
def zp_C_film : List zB := [(0, [.inr (.aload_n 0), .inr (.invokeinterface 4 0), .inr (.invokeinterface 0 2)], .inr (.inr (1, 158, 1))),
  (10, [.inr (.istore 4), .inr (.aload_n 0), .inr (.iload_n 1), .inr (.iload_n 2), .inr (.iload_n 3), .inr (.iload 4)], .inr (.inr (1, 41, 2))),
  (21, [.inr (.istore 5), .inr (.iload 5)], .inl (.eq, false, 4, 3)),
  (28, [.inr (.iload 5)], .inr (.inr (2, 1, 0))),
  (31, [.inr (.aload_n 0), .inr (.invokeinterface 4 0), .inr (.invokeinterface 0 2), .inr (.lstore 6), .inl (.int 0), .inr (.istore 8)], .inr (.inr (0, 5, 1))),
  (43, [.inr (.iload 8), .inr (.iload 4)], .inl (.ge, true, 10, 6)),
  (50, [.inr (.lload 6)], .inr (.inr (1, 157, 7))),
  (55, [.inr (.lstore 9), .inr (.aload_n 0), .inr (.invokeinterface 4 4), .inr (.iload_n 1), .inr .aaload, .inr (.iload_n 3), .inr (.iload 8), .inr .iadd, .inr (.aload_n 0), .inr (.invokeinterface 4 0), .inr (.lload 9), .inr (.aload_n 0), .inr (.invokeinterface 4 0), .inr (.invokeinterface 0 3)], .inr (.inr (1, 140, 8))),
  (83, [.inr .i2l], .inr (.inr (1, 172, 9))),
  (87, [.inr (.lload 6), .inr (.lload 9), .inl (.long (-1)), .inr .lxor, .inr .land, .inr (.lstore 6), .inr (.iinc 8 1)], .inr (.inr (0, 5, 0))),
  (104, [.inr (.iload 4)], .inr (.inr (2, 1, 0)))]
def zp_C_miscounted : List zB := [(0, [.inr (.iload 4), .inl (.int 1)], .inl (.lt, true, 2, 1)),
  (6, [.inr (.iload 4), .inl (.int 12)], .inl (.le, true, 3, 2)),
  (13, [.inl (.int (-1))], .inr (.inr (2, 1, 0))),
  (15, [.inr (.aload_n 0), .inr (.iload_n 1), .inr (.iload_n 2), .inr (.iload_n 3), .inl (.int 2), .inr (.iload 4), .inr .imul], .inr (.inr (1, 41, 4))),
  (26, [.inr (.istore 5), .inr (.iload 5)], .inl (.eq, false, 6, 5)),
  (33, [.inr (.iload 5)], .inr (.inr (2, 1, 0))),
  (36, [.inr (.aload_n 0), .inr (.invokeinterface 4 4), .inr (.iload_n 1), .inr .aaload, .inr (.invokeinterface 2 0), .inr (.astore 6), .inl (.int 0), .inr (.istore 7)], .inr (.inr (0, 7, 1))),
  (50, [.inr (.iload 7), .inr (.iload 4)], .inl (.ge, true, 12, 8)),
  (57, [.inr (.iload_n 3), .inl (.int 2), .inr (.iload 7), .inr .imul, .inr .iadd, .inr (.istore 8), .inr (.aload_n 0), .inr (.aload 6), .inr (.iload 8), .inr .laload, .inr (.aload 6), .inr (.iload 8), .inl (.int 1), .inr .iadd, .inr .laload], .inr (.inr (1, 42, 9))),
  (81, [], .inl (.ne, false, 11, 10)),
  (84, [.inr (.iload 7)], .inr (.inr (2, 1, 0))),
  (87, [.inr (.iinc 7 1)], .inr (.inr (0, 7, 0))),
  (93, [.inl (.int (-4))], .inr (.inr (2, 1, 0)))]
def zp_C_sheet : List zB := [(0, [.inr (.iload_n 1)], .inr (.inr (1, 39, 1))),
  (4, [], .inl (.eq, false, 5, 2)),
  (7, [.inr (.iload_n 2)], .inr (.inr (1, 40, 3))),
  (11, [], .inl (.eq, false, 5, 4)),
  (14, [.inr (.iload_n 3), .inl (.int 36)], .inl (.le, true, 6, 5)),
  (20, [.inl (.int (-1))], .inr (.inr (2, 1, 0))),
  (22, [.inr (.iload_n 3)], .inl (.ge, false, 8, 7)),
  (26, [.inl (.int (-14))], .inr (.inr (2, 1, 0))),
  (29, [.inr (.aload_n 0), .inr (.invokeinterface 4 4), .inr (.iload_n 1), .inr .aaload, .inr (.iload_n 2), .inr (.iload_n 3)], .inr (.inr (1, 170, 9))),
  (40, [.inr (.iload_n 3)], .inr (.inr (2, 1, 0)))]
def zp_C_drop : List zB := [(0, [.inr (.iload_n 1)], .inr (.inr (1, 39, 1))),
  (4, [], .inl (.ne, false, 3, 2)),
  (7, [.inl (.int (-1))], .inr (.inr (2, 1, 0))),
  (9, [.inr (.aload_n 0), .inr (.invokeinterface 4 4), .inr (.iload_n 1), .inr .aaload, .inr (.astore_n 2), .inr (.aload_n 2), .inr (.invokeinterface 2 1)], .inl (.ne, false, 5, 4)),
  (23, [.inl (.int (-11))], .inr (.inr (2, 1, 0))),
  (26, [.inr (.aload_n 2), .inl (.int 0), .inr (.multianewarray 2 1), .inr (.aload_n 2), .inr (.invokeinterface 2 3)], .inr (.inr (2, 1, 0)))]
def zp_C_item : List zB := [(0, [.inr (.aload_n 0), .inr (.iload_n 1), .inr (.iload_n 2), .inr (.iload_n 3), .inl (.int 1)], .inr (.inr (1, 41, 1))),
  (8, [.inr (.istore 6), .inr (.iload 6)], .inl (.eq, false, 3, 2)),
  (15, [.inr (.iload 6)], .inr (.inr (2, 1, 0))),
  (18, [.inr (.aload_n 0), .inr (.invokeinterface 4 4), .inr (.iload_n 1), .inr .aaload, .inr (.iload_n 3), .inr (.lload 4)], .inr (.inr (1, 172, 4))),
  (30, [.inl (.int 1)], .inr (.inr (2, 1, 0)))]
def zp_C_copy : List zB := [(0, [.inr (.iload_n 1)], .inr (.inr (1, 39, 1))),
  (4, [], .inl (.eq, false, 4, 2)),
  (7, [.inr (.iload_n 3)], .inr (.inr (1, 39, 3))),
  (11, [], .inl (.ne, false, 5, 4)),
  (14, [.inl (.int (-1))], .inr (.inr (2, 1, 0))),
  (16, [.inr (.aload_n 0), .inr (.invokeinterface 4 4), .inr (.iload_n 1), .inr .aaload, .inr (.astore 6), .inr (.aload_n 0), .inr (.invokeinterface 4 4), .inr (.iload_n 3), .inr .aaload, .inr (.astore 7), .inr (.aload 6), .inr (.invokeinterface 2 1)], .inl (.eq, false, 7, 6)),
  (40, [.inr (.aload 7), .inr (.invokeinterface 2 1)], .inl (.ne, false, 8, 7)),
  (48, [.inl (.int (-11))], .inr (.inr (2, 1, 0))),
  (51, [.inr (.aload 6), .inr (.invokeinterface 2 2), .inr (.aload 7), .inr (.invokeinterface 2 2)], .inl (.eq, true, 10, 9)),
  (64, [.inl (.int (-12))], .inr (.inr (2, 1, 0))),
  (67, [.inr (.aload 6), .inr (.iload_n 2), .inr (.iload 5)], .inr (.inr (1, 171, 11))),
  (75, [], .inl (.eq, false, 14, 12)),
  (78, [.inr (.aload 7), .inr (.iload 4), .inr (.iload 5)], .inr (.inr (1, 171, 13))),
  (87, [], .inl (.ne, false, 15, 14)),
  (90, [.inl (.int (-13))], .inr (.inr (2, 1, 0))),
  (93, [.inr (.aload 6), .inr (.invokeinterface 2 0), .inr (.iload_n 2), .inr (.aload 7), .inr (.invokeinterface 2 0), .inr (.iload 4), .inr (.iload 5)], .inr (.inr (3, 1, 16))),
  (111, [.inr (.iload 5)], .inr (.inr (2, 1, 0)))]
def zp_C_isCell : List zB := [(0, [.inr (.iload_n 0)], .inl (.lt, false, 3, 1)),
  (4, [.inr (.iload_n 0), .inl (.int 36)], .inl (.ge, true, 3, 2)),
  (10, [.inl (.int 1)], .inr (.inr (0, 4, 0))),
  (14, [.inl (.int 0)], .inr (.inr (0, 4, 1))),
  (15, [], .inr (.inr (2, 3, 0)))]
def zp_C_isOwner : List zB := [(0, [.inr (.iload_n 0)], .inl (.lt, false, 3, 1)),
  (4, [.inr (.iload_n 0), .inl (.int 4)], .inl (.ge, true, 3, 2)),
  (9, [.inl (.int 1)], .inr (.inr (0, 4, 0))),
  (13, [.inl (.int 0)], .inr (.inr (0, 4, 1))),
  (14, [], .inr (.inr (2, 3, 0)))]
def zp_C_isSheet : List zB := [(0, [.inr (.iload_n 0)], .inl (.lt, false, 3, 1)),
  (4, [.inr (.iload_n 0), .inl (.int 4)], .inl (.ge, true, 3, 2)),
  (9, [.inl (.int 1)], .inr (.inr (0, 4, 0))),
  (13, [.inl (.int 0)], .inr (.inr (0, 4, 1))),
  (14, [], .inr (.inr (2, 3, 0)))]
def zp_C_isLane : List zB := [(0, [.inr (.iload_n 0)], .inl (.lt, false, 3, 1)),
  (4, [.inr (.iload_n 0), .inl (.int 4)], .inl (.ge, true, 3, 2)),
  (9, [.inl (.int 1)], .inr (.inr (0, 4, 0))),
  (13, [.inl (.int 0)], .inr (.inr (0, 4, 1))),
  (14, [], .inr (.inr (2, 3, 0)))]
def zp_C_refusal : List zB := [(0, [.inr (.iload_n 1)], .inr (.inr (1, 39, 1))),
  (4, [], .inl (.eq, false, 4, 2)),
  (7, [.inr (.iload_n 2)], .inr (.inr (1, 40, 3))),
  (11, [], .inl (.ne, false, 5, 4)),
  (14, [.inl (.int (-1))], .inr (.inr (2, 1, 0))),
  (16, [.inr (.aload_n 0), .inr (.invokeinterface 4 4), .inr (.iload_n 1), .inr .aaload, .inr (.astore 5), .inr (.aload 5), .inr (.invokeinterface 2 1)], .inl (.ne, false, 7, 6)),
  (32, [.inl (.int (-11))], .inr (.inr (2, 1, 0))),
  (35, [.inr (.aload 5), .inr (.invokeinterface 2 2), .inr (.iload_n 2)], .inl (.eq, true, 9, 8)),
  (44, [.inl (.int (-12))], .inr (.inr (2, 1, 0))),
  (47, [.inr (.aload 5), .inr (.iload_n 3), .inr (.iload 4)], .inr (.inr (1, 171, 10))),
  (55, [], .inl (.eq, false, 12, 11)),
  (58, [.inl (.int 0)], .inr (.inr (0, 13, 0))),
  (62, [.inl (.int (-13))], .inr (.inr (0, 13, 1))),
  (64, [], .inr (.inr (2, 1, 0)))]
def zp_C_isRight : List zB := [(0, [.inr (.lload_n 1), .inl (.long 0), .inr .lcmp], .inl (.lt, false, 2, 1)),
  (6, [.inr (.lload_n 1), .inl (.long 36), .inr .lcmp], .inl (.lt, false, 3, 2)),
  (14, [.inl (.int 0)], .inr (.inr (2, 3, 0))),
  (16, [.inr (.aload_n 0), .inr (.invokeinterface 4 0), .inr (.lload_n 1), .inr .l2i], .inr (.inr (1, 138, 4))),
  (25, [.inr (.lstore 5), .inr (.lload 5), .inl (.long 0), .inr .lcmp], .inl (.eq, false, 8, 5)),
  (34, [.inr (.lload 5)], .inr (.inr (1, 185, 6))),
  (39, [.inr .i2l, .inr (.lload_n 3), .inr .lcmp], .inl (.ne, false, 8, 7)),
  (45, [.inl (.int 1)], .inr (.inr (0, 9, 0))),
  (49, [.inl (.int 0)], .inr (.inr (0, 9, 1))),
  (50, [], .inr (.inr (2, 3, 0)))]
def zp_C_pick : List zB := [(0, [.inr (.lload_n 0), .inl (.long (-1)), .inr .lcmp], .inl (.ne, false, 2, 1)),
  (8, [.inl (.int (-4))], .inr (.inr (2, 1, 0))),
  (11, [.inr (.iload_n 2)], .inl (.ge, false, 5, 3)),
  (15, [.inr (.lload_n 0)], .inr (.inr (1, 185, 4))),
  (19, [], .inr (.inr (2, 1, 0))),
  (20, [.inr (.lload_n 0), .inr (.lstore_n 3), .inl (.int 0), .inr (.istore 5)], .inr (.inr (0, 6, 1))),
  (25, [.inr (.iload 5), .inr (.iload_n 2)], .inl (.ge, true, 8, 7)),
  (31, [.inr (.lload_n 3), .inr (.lload_n 3), .inl (.long 1), .inr .lsub, .inr .land, .inr (.lstore_n 3), .inr (.iinc 5 1)], .inr (.inr (0, 6, 0))),
  (43, [.inr (.lload_n 3), .inl (.long 0), .inr .lcmp], .inl (.ne, false, 10, 9)),
  (49, [.inl (.int (-4))], .inr (.inr (0, 11, 0))),
  (54, [.inr (.lload_n 3)], .inr (.inr (1, 154, 11))),
  (58, [], .inr (.inr (2, 1, 0)))]
def zp_N_in : List zB := [(0, [.inr (.lload_n 0), .inr (.lload_n 2), .inr .lcmp], .inl (.lt, false, 3, 1)),
  (6, [.inr (.lload_n 0), .inr (.lload 4), .inr .lcmp], .inl (.gt, false, 3, 2)),
  (13, [.inl (.int 1)], .inr (.inr (0, 4, 0))),
  (17, [.inl (.int 0)], .inr (.inr (0, 4, 1))),
  (18, [], .inr (.inr (2, 3, 0)))]
def zp_N_isCell : List zB := [(0, [.inr (.iload_n 0), .inr .i2l, .inl (.long 0), .inl (.long 35)], .inr (.inr (1, 44, 1))),
  (9, [], .inr (.inr (2, 3, 0)))]
def zp_N_has : List zB := [(0, [.inr (.lload_n 0), .inr (.iload_n 2), .inr .lshr, .inl (.long 1), .inr .land, .inl (.long 1), .inr .lcmp], .inl (.ne, false, 2, 1)),
  (10, [.inl (.int 1)], .inr (.inr (0, 3, 0))),
  (14, [.inl (.int 0)], .inr (.inr (0, 3, 1))),
  (15, [], .inr (.inr (2, 3, 0)))]
def zp_N_ones : List zB := [(0, [.inl (.int 0), .inr (.istore_n 2), .inr (.lload_n 0), .inr (.lstore_n 3)], .inr (.inr (0, 1, 1))),
  (4, [.inr (.lload_n 3), .inl (.long 0), .inr .lcmp], .inl (.eq, false, 3, 2)),
  (10, [.inr (.iinc 2 1), .inr (.lload_n 3), .inr (.lload_n 3), .inl (.long 1), .inr .lsub, .inr .land, .inr (.lstore_n 3)], .inr (.inr (0, 1, 0))),
  (22, [.inr (.iload_n 2)], .inr (.inr (2, 1, 0)))]
def zp_N_least : List zB := [(0, [.inl (.int 0), .inr (.istore_n 2)], .inr (.inr (0, 1, 1))),
  (2, [.inr (.lload_n 0), .inr (.iload_n 2)], .inr (.inr (1, 46, 2))),
  (7, [], .inl (.ne, false, 4, 3)),
  (10, [.inr (.iinc 2 1)], .inr (.inr (0, 1, 0))),
  (16, [.inr (.iload_n 2)], .inr (.inr (2, 1, 0)))]
def zp_N_look : List zB := [(0, [.inr (.aload_n 0), .inl (.long 0), .inr (.multianewarray 5 7), .inr (.aload_n 0), .inl (.long 0), .inr (.multianewarray 5 8), .inl (.int 0), .inr (.istore_n 1)], .inr (.inr (0, 1, 1))),
  (12, [.inr (.iload_n 1), .inl (.int 36)], .inl (.ge, true, 9, 2)),
  (18, [.inr (.aload_n 0), .inr .dup, .inr (.invokeinterface 5 7), .inr (.aload_n 0), .inr (.invokeinterface 5 0), .inr (.iload_n 1), .inr .iaload], .inl (.le, false, 4, 3)),
  (32, [.inl (.long 1), .inr (.iload_n 1), .inr .lshl], .inr (.inr (0, 5, 0))),
  (38, [.inl (.long 0)], .inr (.inr (0, 5, 1))),
  (39, [.inr .lor, .inr (.multianewarray 5 7), .inr (.aload_n 0), .inr .dup, .inr (.invokeinterface 5 8), .inr (.aload_n 0), .inr (.invokeinterface 5 0), .inr (.iload_n 1), .inr .iaload, .inl (.int 9)], .inl (.ne, true, 7, 6)),
  (59, [.inl (.long 1), .inr (.iload_n 1), .inr .lshl], .inr (.inr (0, 8, 0))),
  (65, [.inl (.long 0)], .inr (.inr (0, 8, 1))),
  (66, [.inr .lor, .inr (.multianewarray 5 8), .inr (.iinc 1 1)], .inr (.inr (0, 1, 0))),
  (76, [], .inr (.inr (2, 0, 0)))]
def zp_N_beside : List zB := [(0, [.inr (.lload_n 0), .inl (.long (-1090785346)), .inr .land, .inl (.int 1), .inr .lshr, .inr (.lload_n 0), .inl (.long (-34905131041)), .inr .land, .inl (.int 1), .inr .lshl, .inr .lor, .inr (.lstore_n 2), .inr (.lload_n 2), .inr (.lload_n 0), .inl (.int 6), .inr .lshr, .inr .lor, .inr (.lload_n 0), .inl (.int 6), .inr .lshl, .inr .lor, .inl (.long 68719476735), .inr .land], .inr (.inr (2, 2, 0)))]
def zp_N_grown : List zB := [(0, [.inr (.lload_n 0), .inr (.lload_n 2), .inr .land, .inr (.lstore 4), .inr (.lload 4), .inr (.lload 4)], .inr (.inr (1, 50, 1))),
  (12, [.inr .lor, .inr (.lload_n 2), .inr .land, .inr (.lstore 6)], .inr (.inr (0, 2, 1))),
  (17, [.inr (.lload 6), .inr (.lload 4), .inr .lcmp], .inl (.eq, false, 5, 3)),
  (25, [.inr (.lload 6), .inr (.lstore 4), .inr (.lload 4), .inr (.lload 4)], .inr (.inr (1, 50, 4))),
  (36, [.inr .lor, .inr (.lload_n 2), .inr .land, .inr (.lstore 6)], .inr (.inr (0, 2, 0))),
  (44, [.inr (.lload 4)], .inr (.inr (2, 2, 0)))]
def zp_N_holeAt : List zB := [(0, [.inl (.long 1), .inr (.iload_n 1), .inr .lshl, .inr (.aload_n 0), .inr (.invokeinterface 5 7)], .inr (.inr (1, 51, 1))),
  (10, [], .inr (.inr (2, 2, 0)))]
def zp_N_rimOf : List zB := [(0, [.inr (.lload_n 1)], .inr (.inr (1, 50, 1))),
  (4, [.inr (.aload_n 0), .inr (.invokeinterface 5 7), .inl (.long (-1)), .inr .lxor, .inr .land], .inr (.inr (2, 2, 0)))]
def zp_N_fenceOf : List zB := [(0, [.inr (.lload_n 0), .inr (.lload_n 0), .inl (.long (-1090785346)), .inr .land, .inl (.int 1), .inr .lshr, .inr .land], .inr (.inr (1, 47, 1))),
  (12, [.inr (.lload_n 0), .inr (.lload_n 0), .inl (.int 6), .inr .lshr, .inr .land], .inr (.inr (1, 47, 2))),
  (21, [.inr .iadd, .inr (.istore_n 2), .inl (.int 4), .inr (.lload_n 0)], .inr (.inr (1, 47, 3))),
  (28, [.inr .imul, .inl (.int 2), .inr (.iload_n 2), .inr .imul, .inr .isub], .inr (.inr (2, 1, 0)))]
def zp_N_edge : List zB := [(0, [.inl (.long 68208171135)], .inr (.inr (2, 2, 0)))]
def zp_N_withinOf : List zB := [(0, [.inl (.long 68719476735), .inr (.lload_n 0), .inl (.long (-1)), .inr .lxor, .inr .land, .inr (.lstore_n 2), .inr (.lload_n 2)], .inr (.inr (1, 55, 1))),
  (14, [.inr (.lload_n 2)], .inr (.inr (1, 51, 2))),
  (18, [.inl (.long (-1)), .inr .lxor, .inr .land], .inr (.inr (2, 2, 0)))]
def zp_N_kindOf : List zB := [(0, [.inr (.lload_n 1), .inl (.long 1090785345), .inr .land, .inl (.long 0), .inr .lcmp], .inl (.eq, false, 2, 1)),
  (10, [.inr (.lload_n 1), .inl (.long 34905131040), .inr .land, .inl (.long 0), .inr .lcmp], .inl (.ne, false, 4, 2)),
  (20, [.inr (.lload_n 1), .inl (.long 63), .inr .land, .inl (.long 0), .inr .lcmp], .inl (.eq, false, 5, 3)),
  (30, [.inr (.lload_n 1), .inl (.long 67645734912), .inr .land, .inl (.long 0), .inr .lcmp], .inl (.eq, false, 5, 4)),
  (40, [.inl (.int 1)], .inr (.inr (0, 6, 0))),
  (44, [.inl (.int 0)], .inr (.inr (0, 6, 1))),
  (45, [.inr (.istore_n 3), .inr (.lload_n 1)], .inr (.inr (1, 55, 7))),
  (50, [.inr .land, .inl (.long 0), .inr .lcmp], .inl (.eq, false, 9, 8)),
  (56, [.inl (.int 1)], .inr (.inr (0, 10, 0))),
  (60, [.inl (.int 0)], .inr (.inr (0, 10, 1))),
  (61, [.inr (.istore 4), .inr (.lload_n 1), .inr (.aload_n 0), .inr (.invokeinterface 5 2), .inl (.long (-1)), .inr .lxor, .inr .land, .inl (.long 0), .inr .lcmp], .inl (.ne, false, 12, 11)),
  (78, [.inl (.int 4)], .inr (.inr (0, 20, 0))),
  (82, [.inr (.iload_n 3)], .inl (.eq, false, 14, 13)),
  (86, [.inl (.int 3)], .inr (.inr (0, 20, 0))),
  (90, [.inr (.iload 4)], .inl (.ne, false, 17, 15)),
  (95, [.inr (.lload_n 1), .inr (.aload_n 0), .inr (.invokeinterface 5 8), .inr .land, .inl (.long 0), .inr .lcmp], .inl (.eq, false, 17, 16)),
  (106, [.inl (.int 2)], .inr (.inr (0, 20, 0))),
  (110, [.inr (.iload 4)], .inl (.eq, false, 19, 18)),
  (115, [.inl (.int 1)], .inr (.inr (0, 20, 0))),
  (119, [.inl (.int 0)], .inr (.inr (0, 20, 1))),
  (120, [], .inr (.inr (2, 1, 0)))]
def zp_N_taxOf : List zB := [(0, [.inr (.lload_n 1)], .inr (.inr (1, 47, 1))),
  (4, [.inr (.istore_n 3), .inr (.aload_n 0), .inr (.invokeinterface 5 3), .inr (.iload_n 3), .inl (.int 3)], .inl (.ge, true, 3, 2)),
  (14, [.inr (.iload_n 3)], .inr (.inr (0, 4, 0))),
  (18, [.inl (.int 2), .inr (.iload_n 3), .inr .imul, .inl (.int 3), .inr .isub], .inr (.inr (0, 4, 1))),
  (23, [.inr .imul, .inr (.istore 4), .inr (.aload_n 0), .inr (.lload_n 1)], .inr (.inr (1, 57, 5))),
  (31, [.inr (.istore 5), .inr (.iload 4), .inl (.int 10), .inr .iadd, .inl (.int 3), .inr (.iload_n 3), .inr .imul, .inr .isub, .inr (.istore 6), .inr (.iload 5)], .inl (.ne, false, 7, 6)),
  (49, [.inr (.iload 4)], .inr (.inr (0, 17, 0))),
  (54, [.inr (.iload 5), .inl (.int 1)], .inl (.ne, true, 9, 8)),
  (60, [.inr (.iload 4), .inl (.int 2), .inr .idiv], .inr (.inr (0, 17, 0))),
  (67, [.inr (.iload 5), .inl (.int 2)], .inl (.ne, true, 11, 10)),
  (73, [.inr (.iload 4), .inl (.int 10), .inr .iadd], .inr (.inr (0, 17, 0))),
  (81, [.inr (.iload 5), .inl (.int 3)], .inl (.ne, true, 14, 12)),
  (87, [.inr (.iload 4), .inl (.int 2), .inr .idiv, .inr (.lload_n 1)], .inr (.inr (1, 54, 13))),
  (95, [.inr .iadd], .inr (.inr (0, 17, 0))),
  (99, [.inr (.iload 6)], .inl (.ge, false, 16, 15)),
  (104, [.inl (.int 0)], .inr (.inr (0, 17, 0))),
  (108, [.inr (.iload 6)], .inr (.inr (0, 17, 1))),
  (110, [], .inr (.inr (2, 1, 0)))]
def zp_N_findHoles : List zB := [(0, [.inr (.aload_n 0), .inl (.int 0), .inr (.multianewarray 5 10), .inr (.aload_n 0), .inr (.invokeinterface 5 7), .inr (.lstore_n 1)], .inr (.inr (0, 1, 1))),
  (10, [.inr (.lload_n 1), .inl (.long 0), .inr .lcmp], .inl (.eq, false, 5, 2)),
  (16, [.inr (.aload_n 0), .inr (.invokeinterface 5 9), .inr (.aload_n 0), .inr (.invokeinterface 5 10), .inr (.aload_n 0), .inr (.lload_n 1)], .inr (.inr (1, 48, 3))),
  (29, [], .inr (.inr (1, 52, 4))),
  (32, [.inr .lastore, .inr (.aload_n 0), .inr .dup, .inr (.invokeinterface 5 10), .inl (.int 1), .inr .iadd, .inr (.multianewarray 5 10), .inr (.lload_n 1), .inr (.aload_n 0), .inr (.invokeinterface 5 9), .inr (.aload_n 0), .inr (.invokeinterface 5 10), .inl (.int 1), .inr .isub, .inr .laload, .inl (.long (-1)), .inr .lxor, .inr .land, .inr (.lstore_n 1)], .inr (.inr (0, 1, 0))),
  (64, [], .inr (.inr (2, 0, 0)))]
def zp_N_taxOfAll : List zB := [(0, [.inr (.aload_n 0)], .inr (.inr (1, 59, 1))),
  (4, [.inl (.int 0), .inr (.istore_n 1), .inl (.int 0), .inr (.istore_n 2)], .inr (.inr (0, 2, 1))),
  (8, [.inr (.iload_n 2), .inr (.aload_n 0), .inr (.invokeinterface 5 10)], .inl (.ge, true, 5, 3)),
  (16, [.inr (.iload_n 1), .inr (.aload_n 0), .inr (.aload_n 0), .inr (.invokeinterface 5 9), .inr (.iload_n 2), .inr .laload], .inr (.inr (1, 58, 4))),
  (27, [.inr .iadd, .inr (.istore_n 1), .inr (.iinc 2 1)], .inr (.inr (0, 2, 0))),
  (35, [.inr (.iload_n 1)], .inr (.inr (2, 1, 0)))]
def zp_N_note : List zB := [(0, [.inr (.aload_n 0), .inr (.invokeinterface 5 5), .inl (.int 10)], .inl (.ne, true, 5, 1)),
  (9, [.inl (.int 0), .inr (.istore_n 2)], .inr (.inr (0, 2, 1))),
  (11, [.inr (.iload_n 2), .inl (.int 27)], .inl (.ge, true, 4, 3)),
  (17, [.inr (.aload_n 0), .inr (.invokeinterface 5 4), .inr (.iload_n 2), .inr (.aload_n 0), .inr (.invokeinterface 5 4), .inr (.iload_n 2), .inl (.int 3), .inr .iadd, .inr .iaload, .inr .iastore, .inr (.iinc 2 1)], .inr (.inr (0, 2, 0))),
  (37, [.inr (.aload_n 0), .inr .dup, .inr (.invokeinterface 5 5), .inl (.int 1), .inr .isub, .inr (.multianewarray 5 5)], .inr (.inr (0, 5, 1))),
  (47, [.inr (.aload_n 0), .inr (.invokeinterface 5 4), .inl (.int 3), .inr (.aload_n 0), .inr (.invokeinterface 5 5), .inr .imul, .inr (.iload_n 1), .inr .iastore, .inr (.aload_n 0), .inr (.invokeinterface 5 4), .inl (.int 3), .inr (.aload_n 0), .inr (.invokeinterface 5 5), .inr .imul, .inl (.int 1), .inr .iadd, .inr (.aload_n 0), .inr (.invokeinterface 5 0), .inr (.iload_n 1), .inr .iaload, .inr .iastore, .inr (.aload_n 0), .inr (.invokeinterface 5 4), .inl (.int 3), .inr (.aload_n 0), .inr (.invokeinterface 5 5), .inr .imul, .inl (.int 2), .inr .iadd, .inr (.aload_n 0), .inr (.invokeinterface 5 2), .inr (.iload_n 1)], .inr (.inr (1, 46, 6))),
  (98, [], .inl (.eq, false, 8, 7)),
  (101, [.inl (.int 1)], .inr (.inr (0, 9, 0))),
  (105, [.inl (.int 0)], .inr (.inr (0, 9, 1))),
  (106, [.inr .iastore, .inr (.aload_n 0), .inr .dup, .inr (.invokeinterface 5 5), .inl (.int 1), .inr .iadd, .inr (.multianewarray 5 5)], .inr (.inr (2, 0, 0)))]
def zp_N_put : List zB := [(0, [.inr (.aload_n 0), .inr (.invokeinterface 5 0), .inr (.iload_n 1), .inr (.iload_n 2), .inr .iastore, .inr (.aload_n 0), .inr (.iload_n 3)], .inl (.eq, false, 2, 1)),
  (12, [.inr (.aload_n 0), .inr (.invokeinterface 5 2), .inl (.long 1), .inr (.iload_n 1), .inr .lshl, .inr .lor], .inr (.inr (0, 3, 0))),
  (23, [.inr (.aload_n 0), .inr (.invokeinterface 5 2), .inl (.long 1), .inr (.iload_n 1), .inr .lshl, .inl (.long (-1)), .inr .lxor, .inr .land], .inr (.inr (0, 3, 1))),
  (35, [.inr (.multianewarray 5 2)], .inr (.inr (2, 0, 0)))]
def zp_N_dig : List zB := [(0, [.inr (.iload_n 1)], .inr (.inr (1, 45, 1))),
  (4, [], .inl (.ne, false, 3, 2)),
  (7, [.inl (.int (-1))], .inr (.inr (2, 1, 0))),
  (9, [.inr (.aload_n 0), .inr (.invokeinterface 5 0), .inr (.iload_n 1), .inr .iaload, .inl (.int 9)], .inl (.ne, true, 5, 4)),
  (20, [.inl (.int (-3))], .inr (.inr (2, 1, 0))),
  (23, [.inr (.aload_n 0), .inr (.iload_n 1)], .inr (.inr (1, 61, 6))),
  (28, [.inr (.aload_n 0), .inr (.invokeinterface 5 0), .inr (.iload_n 1), .inr .dup2, .inr .iaload, .inl (.int 1), .inr .iadd, .inr .iastore, .inr (.aload_n 0), .inr (.invokeinterface 5 0), .inr (.iload_n 1), .inr .iaload], .inr (.inr (2, 1, 0)))]
def zp_N_fill : List zB := [(0, [.inr (.iload_n 1)], .inr (.inr (1, 45, 1))),
  (4, [], .inl (.ne, false, 3, 2)),
  (7, [.inl (.int (-1))], .inr (.inr (2, 1, 0))),
  (9, [.inr (.aload_n 0), .inr (.invokeinterface 5 0), .inr (.iload_n 1), .inr .iaload, .inr (.istore_n 2), .inr (.iload_n 2)], .inl (.ne, false, 5, 4)),
  (20, [.inl (.int (-2))], .inr (.inr (2, 1, 0))),
  (23, [.inr (.aload_n 0), .inr (.iload_n 1)], .inr (.inr (1, 61, 6))),
  (28, [.inr (.aload_n 0), .inr (.iload_n 1), .inl (.int 0), .inl (.int 0)], .inr (.inr (1, 62, 7))),
  (35, [.inr (.iload_n 2)], .inr (.inr (2, 1, 0)))]
def zp_N_roof : List zB := [(0, [.inr (.iload_n 1)], .inr (.inr (1, 45, 1))),
  (4, [], .inl (.ne, false, 3, 2)),
  (7, [.inl (.int (-1))], .inr (.inr (2, 1, 0))),
  (9, [.inr (.aload_n 0), .inr (.invokeinterface 5 0), .inr (.iload_n 1), .inr .iaload], .inl (.ne, false, 5, 4)),
  (18, [.inl (.int (-2))], .inr (.inr (2, 1, 0))),
  (21, [.inr (.aload_n 0), .inr (.iload_n 1)], .inr (.inr (1, 61, 6))),
  (26, [.inr (.aload_n 0), .inr .dup, .inr (.invokeinterface 5 2), .inl (.long 1), .inr (.iload_n 1), .inr .lshl, .inr .lxor, .inr (.multianewarray 5 2), .inr (.aload_n 0), .inr (.invokeinterface 5 2), .inr (.iload_n 1)], .inr (.inr (1, 46, 7))),
  (46, [], .inl (.eq, false, 9, 8)),
  (49, [.inl (.int 1)], .inr (.inr (0, 10, 0))),
  (53, [.inl (.int 0)], .inr (.inr (0, 10, 1))),
  (54, [], .inr (.inr (2, 1, 0)))]
def zp_N_undo : List zB := [(0, [.inr (.aload_n 0), .inr (.invokeinterface 5 5)], .inl (.ne, false, 2, 1)),
  (7, [.inl (.int (-4))], .inr (.inr (2, 1, 0))),
  (10, [.inr (.aload_n 0), .inr .dup, .inr (.invokeinterface 5 5), .inl (.int 1), .inr .isub, .inr (.multianewarray 5 5), .inr (.aload_n 0), .inr (.aload_n 0), .inr (.invokeinterface 5 4), .inl (.int 3), .inr (.aload_n 0), .inr (.invokeinterface 5 5), .inr .imul, .inr .iaload, .inr (.aload_n 0), .inr (.invokeinterface 5 4), .inl (.int 3), .inr (.aload_n 0), .inr (.invokeinterface 5 5), .inr .imul, .inl (.int 1), .inr .iadd, .inr .iaload, .inr (.aload_n 0), .inr (.invokeinterface 5 4), .inl (.int 3), .inr (.aload_n 0), .inr (.invokeinterface 5 5), .inr .imul, .inl (.int 2), .inr .iadd, .inr .iaload, .inl (.int 1)], .inl (.ne, true, 4, 3)),
  (62, [.inl (.int 1)], .inr (.inr (0, 5, 0))),
  (66, [.inl (.int 0)], .inr (.inr (0, 5, 1))),
  (67, [], .inr (.inr (1, 62, 6))),
  (70, [.inr (.aload_n 0), .inr (.invokeinterface 5 5)], .inr (.inr (2, 1, 0)))]
def zp_N_own : List zB := [(0, [.inr (.iload_n 1)], .inr (.inr (1, 45, 1))),
  (4, [], .inl (.eq, false, 4, 2)),
  (7, [.inr (.iload_n 2), .inr .i2l, .inl (.long 0), .inl (.long 4)], .inr (.inr (1, 44, 3))),
  (16, [], .inl (.ne, false, 5, 4)),
  (19, [.inl (.int (-1))], .inr (.inr (2, 1, 0))),
  (21, [.inr (.aload_n 0), .inr (.invokeinterface 5 1), .inr (.iload_n 1), .inr .iaload, .inr (.istore_n 3), .inr (.aload_n 0), .inr (.invokeinterface 5 1), .inr (.iload_n 1), .inr (.iload_n 2), .inr .iastore, .inr (.iload_n 3)], .inr (.inr (2, 1, 0)))]
def zp_N_rate : List zB := [(0, [.inr (.iload_n 1), .inr .i2l, .inl (.long 0), .inl (.long 99)], .inr (.inr (1, 44, 1))),
  (9, [], .inl (.ne, false, 3, 2)),
  (12, [.inl (.int (-1))], .inr (.inr (2, 1, 0))),
  (14, [.inr (.aload_n 0), .inr (.invokeinterface 5 3), .inr (.istore_n 2), .inr (.aload_n 0), .inr (.iload_n 1), .inr (.multianewarray 5 3), .inr (.iload_n 2)], .inr (.inr (2, 1, 0)))]
def zp_N_told : List zB := [(0, [.inr (.iload_n 1)], .inr (.inr (1, 45, 1))),
  (4, [], .inl (.ne, false, 3, 2)),
  (7, [.inl (.int (-1))], .inr (.inr (2, 1, 0))),
  (9, [.inr (.aload_n 0)], .inr (.inr (1, 49, 4))),
  (13, [.inr (.iload_n 2)], .inr (.inl ([(0, 5), (1, 6), (2, 11), (3, 12)], 19))),
  (44, [.inr (.aload_n 0), .inr (.invokeinterface 5 0), .inr (.iload_n 1), .inr .iaload], .inr (.inr (2, 1, 0))),
  (51, [.inr (.aload_n 0), .inr (.invokeinterface 5 2), .inr (.iload_n 1)], .inr (.inr (1, 46, 7))),
  (59, [], .inl (.eq, false, 9, 8)),
  (62, [.inl (.int 1)], .inr (.inr (0, 10, 0))),
  (66, [.inl (.int 0)], .inr (.inr (0, 10, 1))),
  (67, [], .inr (.inr (2, 1, 0))),
  (68, [.inr (.aload_n 0), .inr (.invokeinterface 5 1), .inr (.iload_n 1), .inr .iaload], .inr (.inr (2, 1, 0))),
  (75, [.inr (.aload_n 0), .inr (.invokeinterface 5 7), .inr (.iload_n 1)], .inr (.inr (1, 46, 13))),
  (83, [], .inl (.eq, false, 17, 14)),
  (86, [.inr (.aload_n 0), .inr (.iload_n 1)], .inr (.inr (1, 52, 15))),
  (91, [], .inr (.inr (1, 48, 16))),
  (94, [], .inr (.inr (0, 18, 0))),
  (97, [.inl (.int (-4))], .inr (.inr (0, 18, 1))),
  (99, [], .inr (.inr (2, 1, 0))),
  (100, [.inl (.int (-1))], .inr (.inr (2, 1, 0)))]
def zp_N_type : List zB := [(0, [.inr (.iload_n 1), .inr .i2l, .inl (.long 32), .inl (.long 126)], .inr (.inr (1, 44, 1))),
  (11, [], .inl (.ne, false, 3, 2)),
  (14, [.inl (.int (-1))], .inr (.inr (2, 1, 0))),
  (16, [.inr (.aload_n 0), .inr (.invokeinterface 5 12), .inl (.int 160)], .inl (.ne, true, 5, 4)),
  (26, [.inl (.int (-3))], .inr (.inr (2, 1, 0))),
  (29, [.inr (.aload_n 0), .inr (.invokeinterface 5 11), .inr (.aload_n 0), .inr (.invokeinterface 5 12), .inr (.iload_n 1), .inr .iastore, .inr (.aload_n 0), .inr .dup, .inr (.invokeinterface 5 12), .inl (.int 1), .inr .iadd, .inr (.multianewarray 5 12), .inr (.aload_n 0), .inr (.invokeinterface 5 12)], .inr (.inr (2, 1, 0)))]
def zp_N_nextLetter : List zB := [(0, [.inr (.aload_n 0), .inr (.invokeinterface 5 13), .inr (.aload_n 0), .inr (.invokeinterface 5 12)], .inl (.ge, true, 3, 1)),
  (11, [.inr (.aload_n 0), .inr (.invokeinterface 5 11), .inr (.aload_n 0), .inr (.invokeinterface 5 13), .inr .iaload, .inl (.int 32)], .inl (.ne, true, 3, 2)),
  (25, [.inr (.aload_n 0), .inr .dup, .inr (.invokeinterface 5 13), .inl (.int 1), .inr .iadd, .inr (.multianewarray 5 13)], .inr (.inr (0, 0, 0))),
  (38, [.inr (.aload_n 0), .inr (.invokeinterface 5 13), .inr (.aload_n 0), .inr (.invokeinterface 5 12)], .inl (.ge, true, 5, 4)),
  (49, [.inr (.aload_n 0), .inr (.invokeinterface 5 11), .inr (.aload_n 0), .inr (.invokeinterface 5 13), .inr .iaload], .inr (.inr (0, 6, 0))),
  (61, [.inl (.int (-1))], .inr (.inr (0, 6, 1))),
  (62, [], .inr (.inr (2, 1, 0)))]
def zp_N_takes : List zB := [(0, [.inr (.aload_n 0)], .inr (.inr (1, 71, 1))),
  (4, [.inr (.iload_n 1)], .inl (.ne, true, 3, 2)),
  (8, [.inl (.int 1)], .inr (.inr (0, 4, 0))),
  (12, [.inl (.int 0)], .inr (.inr (0, 4, 1))),
  (13, [.inr (.istore_n 2), .inr (.aload_n 0), .inr .dup, .inr (.invokeinterface 5 13), .inr (.iload_n 2)], .inl (.eq, false, 6, 5)),
  (23, [.inl (.int 1)], .inr (.inr (0, 7, 0))),
  (27, [.inl (.int 0)], .inr (.inr (0, 7, 1))),
  (28, [.inr .iadd, .inr (.multianewarray 5 13), .inr (.iload_n 2)], .inr (.inr (2, 3, 0)))]
def zp_N_end : List zB := [(0, [.inr (.iload_n 1)], .inl (.ne, false, 3, 1)),
  (4, [.inr (.aload_n 0)], .inr (.inr (1, 71, 2))),
  (8, [.inr .pop], .inr (.inr (0, 3, 1))),
  (9, [.inr (.aload_n 0), .inl (.int 0), .inr (.multianewarray 5 12), .inr (.iload_n 1)], .inl (.eq, false, 5, 4)),
  (18, [.inl (.int 0)], .inr (.inr (0, 6, 0))),
  (22, [.inl (.int (-20)), .inr (.aload_n 0), .inr (.invokeinterface 5 13), .inr .isub], .inr (.inr (0, 6, 1))),
  (29, [], .inr (.inr (2, 1, 0)))]
def zp_N_readGround : List zB := [(0, [.inr (.aload_n 0), .inl (.int 0), .inr (.multianewarray 5 13), .inl (.int 0), .inr (.istore_n 1)], .inr (.inr (0, 1, 1))),
  (7, [.inr (.iload_n 1), .inl (.int 36)], .inl (.ge, true, 17, 2)),
  (13, [.inr (.iload_n 1)], .inl (.le, false, 7, 3)),
  (17, [.inr (.iload_n 1), .inl (.int 6), .inr .irem], .inl (.ne, false, 7, 4)),
  (24, [.inr (.aload_n 0), .inl (.int 47)], .inr (.inr (1, 72, 5))),
  (30, [], .inl (.ne, false, 7, 6)),
  (33, [.inl (.int 0)], .inr (.inr (2, 3, 0))),
  (35, [.inr (.aload_n 0)], .inr (.inr (1, 71, 8))),
  (39, [.inl (.int 48), .inr .isub, .inr (.istore_n 2), .inr (.iload_n 2), .inr .i2l, .inl (.long 0), .inl (.long 9)], .inr (.inr (1, 44, 9))),
  (52, [], .inl (.ne, false, 11, 10)),
  (55, [.inl (.int 0)], .inr (.inr (2, 3, 0))),
  (57, [.inr (.aload_n 0), .inr .dup, .inr (.invokeinterface 5 13), .inl (.int 1), .inr .iadd, .inr (.multianewarray 5 13), .inr (.aload_n 0), .inr (.invokeinterface 5 15), .inr (.iload_n 1), .inr (.iload_n 2)], .inl (.le, false, 15, 12)),
  (76, [.inr (.aload_n 0), .inl (.int 94)], .inr (.inr (1, 72, 13))),
  (82, [], .inl (.eq, false, 15, 14)),
  (85, [.inl (.int 100), .inr (.iload_n 2), .inr .iadd], .inr (.inr (0, 16, 0))),
  (92, [.inr (.iload_n 2)], .inr (.inr (0, 16, 1))),
  (93, [.inr .iastore, .inr (.iinc 1 1)], .inr (.inr (0, 1, 0))),
  (100, [.inr (.aload_n 0)], .inr (.inr (1, 71, 18))),
  (104, [], .inl (.ge, false, 20, 19)),
  (107, [.inl (.int 1)], .inr (.inr (0, 21, 0))),
  (111, [.inl (.int 0)], .inr (.inr (0, 21, 1))),
  (112, [], .inr (.inr (2, 3, 0)))]
def zp_N_ground : List zB := [(0, [.inr (.aload_n 0), .inr (.aload_n 0)], .inr (.inr (1, 74, 1))),
  (5, [], .inr (.inr (1, 73, 2))),
  (8, [.inr (.istore_n 1), .inr (.iload_n 1)], .inl (.ge, false, 4, 3)),
  (13, [.inr (.iload_n 1)], .inr (.inr (2, 1, 0))),
  (15, [.inl (.int 0), .inr (.istore_n 2)], .inr (.inr (0, 5, 1))),
  (17, [.inr (.iload_n 2), .inl (.int 36)], .inl (.ge, true, 11, 6)),
  (23, [.inr (.aload_n 0), .inr (.iload_n 2), .inr (.aload_n 0), .inr (.invokeinterface 5 15), .inr (.iload_n 2), .inr .iaload, .inl (.int 100), .inr .irem, .inr (.aload_n 0), .inr (.invokeinterface 5 15), .inr (.iload_n 2), .inr .iaload, .inl (.int 99)], .inl (.le, true, 8, 7)),
  (45, [.inl (.int 1)], .inr (.inr (0, 9, 0))),
  (49, [.inl (.int 0)], .inr (.inr (0, 9, 1))),
  (50, [], .inr (.inr (1, 62, 10))),
  (53, [.inr (.iinc 2 1)], .inr (.inr (0, 5, 0))),
  (59, [.inr (.aload_n 0), .inl (.int 0), .inr (.multianewarray 5 5), .inr (.aload_n 0)], .inr (.inr (1, 49, 12))),
  (68, [.inr (.aload_n 0)], .inr (.inr (1, 59, 13))),
  (72, [.inr (.aload_n 0), .inr (.invokeinterface 5 10)], .inr (.inr (2, 1, 0)))]
def zp_N_readOwners : List zB := [(0, [.inr (.aload_n 0), .inl (.int 0), .inr (.multianewarray 5 13), .inl (.int 0), .inr (.istore_n 1)], .inr (.inr (0, 1, 1))),
  (7, [.inr (.iload_n 1), .inl (.int 36)], .inl (.ge, true, 15, 2)),
  (13, [.inr (.iload_n 1)], .inl (.le, false, 6, 3)),
  (17, [.inr (.iload_n 1), .inl (.int 6), .inr .irem], .inl (.ne, false, 6, 4)),
  (24, [.inr (.aload_n 0), .inl (.int 47)], .inr (.inr (1, 72, 5))),
  (30, [.inr .pop], .inr (.inr (0, 6, 1))),
  (31, [.inr (.aload_n 0)], .inr (.inr (1, 71, 7))),
  (35, [.inr (.istore_n 2), .inr (.iload_n 2), .inl (.int 45)], .inl (.eq, true, 11, 8)),
  (42, [.inr (.iload_n 2), .inr .i2l, .inl (.long 48), .inl (.long 51)], .inr (.inr (1, 44, 9))),
  (53, [], .inl (.ne, false, 11, 10)),
  (56, [.inl (.int 0)], .inr (.inr (2, 3, 0))),
  (58, [.inr (.aload_n 0), .inr .dup, .inr (.invokeinterface 5 13), .inl (.int 1), .inr .iadd, .inr (.multianewarray 5 13), .inr (.aload_n 0), .inr (.invokeinterface 5 15), .inr (.iload_n 1), .inr (.iload_n 2), .inl (.int 45)], .inl (.ne, true, 13, 12)),
  (79, [.inl (.int 4)], .inr (.inr (0, 14, 0))),
  (83, [.inr (.iload_n 2), .inl (.int 48), .inr .isub], .inr (.inr (0, 14, 1))),
  (87, [.inr .iastore, .inr (.iinc 1 1)], .inr (.inr (0, 1, 0))),
  (94, [.inr (.aload_n 0)], .inr (.inr (1, 71, 16))),
  (98, [], .inl (.ge, false, 18, 17)),
  (101, [.inl (.int 1)], .inr (.inr (0, 19, 0))),
  (105, [.inl (.int 0)], .inr (.inr (0, 19, 1))),
  (106, [], .inr (.inr (2, 3, 0)))]
def zp_N_owners : List zB := [(0, [.inr (.aload_n 0), .inr (.aload_n 0)], .inr (.inr (1, 76, 1))),
  (5, [], .inr (.inr (1, 73, 2))),
  (8, [.inr (.istore_n 1), .inr (.iload_n 1)], .inl (.ge, false, 4, 3)),
  (13, [.inr (.iload_n 1)], .inr (.inr (2, 1, 0))),
  (15, [.inl (.int 0), .inr (.istore_n 2), .inl (.int 0), .inr (.istore_n 3)], .inr (.inr (0, 5, 1))),
  (19, [.inr (.iload_n 3), .inl (.int 36)], .inl (.ge, true, 10, 6)),
  (25, [.inr (.aload_n 0), .inr (.invokeinterface 5 1), .inr (.iload_n 3), .inr (.aload_n 0), .inr (.invokeinterface 5 15), .inr (.iload_n 3), .inr .iaload, .inr .iastore, .inr (.iload_n 2), .inr (.aload_n 0), .inr (.invokeinterface 5 15), .inr (.iload_n 3), .inr .iaload, .inl (.int 4)], .inl (.ge, true, 8, 7)),
  (48, [.inl (.int 1)], .inr (.inr (0, 9, 0))),
  (52, [.inl (.int 0)], .inr (.inr (0, 9, 1))),
  (53, [.inr .iadd, .inr (.istore_n 2), .inr (.iinc 3 1)], .inr (.inr (0, 5, 0))),
  (61, [.inr (.iload_n 2)], .inr (.inr (2, 1, 0)))]
def zp_N_readAct : List zB := [(0, [.inr (.aload_n 0)], .inr (.inr (1, 71, 1))),
  (4, [.inr (.istore_n 1), .inr (.iload_n 1), .inl (.int 100)], .inl (.eq, true, 5, 2)),
  (11, [.inr (.iload_n 1), .inl (.int 102)], .inl (.eq, true, 5, 3)),
  (17, [.inr (.iload_n 1), .inl (.int 114)], .inl (.eq, true, 5, 4)),
  (23, [.inl (.int 0)], .inr (.inr (2, 3, 0))),
  (25, [.inr (.aload_n 0), .inr .dup, .inr (.invokeinterface 5 13), .inl (.int 1), .inr .iadd, .inr (.multianewarray 5 13), .inr (.aload_n 0)], .inr (.inr (1, 71, 6))),
  (39, [.inl (.int 48), .inr .isub, .inr (.istore_n 2), .inr (.iload_n 2), .inr .i2l, .inl (.long 0), .inl (.long 5)], .inr (.inr (1, 44, 7))),
  (52, [], .inl (.ne, false, 9, 8)),
  (55, [.inl (.int 0)], .inr (.inr (2, 3, 0))),
  (57, [.inr (.aload_n 0), .inr .dup, .inr (.invokeinterface 5 13), .inl (.int 1), .inr .iadd, .inr (.multianewarray 5 13), .inr (.aload_n 0)], .inr (.inr (1, 71, 10))),
  (71, [.inl (.int 48), .inr .isub, .inr (.istore_n 3), .inr (.iload_n 3), .inr .i2l, .inl (.long 0), .inl (.long 5)], .inr (.inr (1, 44, 11))),
  (84, [], .inl (.ne, false, 13, 12)),
  (87, [.inl (.int 0)], .inr (.inr (2, 3, 0))),
  (89, [.inr (.aload_n 0), .inr .dup, .inr (.invokeinterface 5 13), .inl (.int 1), .inr .iadd, .inr (.multianewarray 5 13), .inr (.aload_n 0), .inr (.invokeinterface 5 15), .inr (.aload_n 0), .inr (.invokeinterface 5 14), .inl (.int 100), .inr (.iload_n 1), .inr .imul, .inl (.int 6), .inr (.iload_n 2), .inr .imul, .inr .iadd, .inr (.iload_n 3), .inr .iadd, .inr .iastore, .inl (.int 1)], .inr (.inr (2, 3, 0)))]
def zp_N_readDay : List zB := [(0, [.inr (.aload_n 0), .inl (.int 0), .inr (.multianewarray 5 13), .inr (.aload_n 0), .inl (.int 0), .inr (.multianewarray 5 14), .inl (.int 1), .inr (.istore_n 1)], .inr (.inr (0, 1, 1))),
  (12, [.inr (.iload_n 1)], .inl (.eq, false, 7, 2)),
  (16, [.inr (.aload_n 0)], .inr (.inr (1, 78, 3))),
  (20, [], .inl (.ne, false, 5, 4)),
  (23, [.inl (.int 0)], .inr (.inr (2, 3, 0))),
  (25, [.inr (.aload_n 0), .inr .dup, .inr (.invokeinterface 5 14), .inl (.int 1), .inr .iadd, .inr (.multianewarray 5 14), .inr (.aload_n 0), .inl (.int 59)], .inr (.inr (1, 72, 6))),
  (41, [.inr (.istore_n 1)], .inr (.inr (0, 1, 0))),
  (45, [.inr (.aload_n 0)], .inr (.inr (1, 71, 8))),
  (49, [], .inl (.ge, false, 10, 9)),
  (52, [.inl (.int 1)], .inr (.inr (0, 11, 0))),
  (56, [.inl (.int 0)], .inr (.inr (0, 11, 1))),
  (57, [], .inr (.inr (2, 3, 0)))]
def zp_N_day : List zB := [(0, [.inr (.aload_n 0), .inr (.aload_n 0)], .inr (.inr (1, 79, 1))),
  (5, [], .inr (.inr (1, 73, 2))),
  (8, [.inr (.istore_n 1), .inr (.iload_n 1)], .inl (.ge, false, 4, 3)),
  (13, [.inr (.iload_n 1)], .inr (.inr (2, 1, 0))),
  (15, [.inl (.int 0), .inr (.istore_n 2)], .inr (.inr (0, 5, 1))),
  (17, [.inr (.iload_n 2), .inr (.aload_n 0), .inr (.invokeinterface 5 14)], .inl (.ge, true, 16, 6)),
  (25, [.inr (.aload_n 0), .inr (.invokeinterface 5 15), .inr (.iload_n 2), .inr .iaload, .inl (.int 100), .inr .idiv, .inr (.istore_n 3), .inr (.aload_n 0), .inr (.invokeinterface 5 15), .inr (.iload_n 2), .inr .iaload, .inl (.int 100), .inr .irem, .inr (.istore 4), .inr (.iload_n 3), .inl (.int 100)], .inl (.ne, true, 9, 7)),
  (52, [.inr (.aload_n 0), .inr (.iload 4)], .inr (.inr (1, 63, 8))),
  (58, [], .inr (.inr (0, 13, 0))),
  (61, [.inr (.iload_n 3), .inl (.int 102)], .inl (.ne, true, 12, 10)),
  (67, [.inr (.aload_n 0), .inr (.iload 4)], .inr (.inr (1, 64, 11))),
  (73, [], .inr (.inr (0, 13, 0))),
  (76, [.inr (.aload_n 0), .inr (.iload 4)], .inr (.inr (1, 65, 13))),
  (82, [.inr (.istore 5), .inr (.iload 5)], .inl (.ge, false, 15, 14)),
  (89, [.inr (.iload_n 2)], .inr (.inr (2, 1, 0))),
  (91, [.inr (.iinc 2 1)], .inr (.inr (0, 5, 0))),
  (97, [.inr (.aload_n 0), .inr (.invokeinterface 5 14)], .inr (.inr (2, 1, 0)))]
def zp_N_count : List zB := [(0, [.inr (.aload_n 0)], .inr (.inr (1, 49, 1))),
  (4, [.inl (.int 0), .inr (.istore_n 2), .inl (.int 0), .inr (.istore_n 3)], .inr (.inr (0, 2, 1))),
  (8, [.inr (.iload_n 3), .inl (.int 36)], .inl (.ge, true, 4, 3)),
  (14, [.inr (.iload_n 2), .inr (.aload_n 0), .inr (.invokeinterface 5 0), .inr (.iload_n 3), .inr .iaload, .inr .iadd, .inr (.istore_n 2), .inr (.iinc 3 1)], .inr (.inr (0, 2, 0))),
  (29, [.inr (.aload_n 0)], .inr (.inr (1, 59, 5))),
  (33, [.inr (.iload_n 1)], .inr (.inl ([(0, 6), (1, 7), (2, 9), (3, 11), (4, 12), (5, 13), (6, 15)], 16))),
  (76, [.inr (.aload_n 0), .inr (.invokeinterface 5 10)], .inr (.inr (2, 1, 0))),
  (81, [.inr (.aload_n 0), .inr (.invokeinterface 5 7)], .inr (.inr (1, 47, 8))),
  (88, [], .inr (.inr (2, 1, 0))),
  (89, [.inr (.aload_n 0)], .inr (.inr (1, 60, 10))),
  (93, [], .inr (.inr (2, 1, 0))),
  (94, [.inr (.aload_n 0), .inr (.invokeinterface 5 5)], .inr (.inr (2, 1, 0))),
  (99, [.inr (.aload_n 0), .inr (.invokeinterface 5 3)], .inr (.inr (2, 1, 0))),
  (104, [.inr (.aload_n 0), .inr (.invokeinterface 5 2)], .inr (.inr (1, 47, 14))),
  (111, [], .inr (.inr (2, 1, 0))),
  (112, [.inr (.iload_n 2)], .inr (.inr (2, 1, 0))),
  (114, [.inl (.int (-1))], .inr (.inr (2, 1, 0)))]
def zp_N_owned : List zB := [(0, [.inl (.long 0), .inr (.lstore_n 2), .inl (.int 0), .inr (.istore 4)], .inr (.inr (0, 1, 1))),
  (5, [.inr (.iload 4), .inl (.int 36)], .inl (.ge, true, 6, 2)),
  (12, [.inr (.lload_n 2), .inr (.aload_n 0), .inr (.invokeinterface 5 1), .inr (.iload 4), .inr .iaload, .inr (.iload_n 1)], .inl (.ne, true, 4, 3)),
  (24, [.inl (.long 1), .inr (.iload 4), .inr .lshl], .inr (.inr (0, 5, 0))),
  (31, [.inl (.long 0)], .inr (.inr (0, 5, 1))),
  (32, [.inr .lor, .inr (.lstore_n 2), .inr (.iinc 4 1)], .inr (.inr (0, 1, 0))),
  (40, [.inr (.lload_n 2)], .inr (.inr (2, 2, 0)))]
def zp_N_ownerOf : List zB := [(0, [.inl (.int 4), .inr (.istore_n 3), .inl (.int 0), .inr (.istore 4), .inl (.int 0), .inr (.istore 5)], .inr (.inr (0, 1, 1))),
  (8, [.inr (.iload 5), .inl (.int 4)], .inl (.ge, true, 12, 2)),
  (14, [.inr (.aload_n 0), .inr (.lload_n 1)], .inr (.inr (1, 53, 3))),
  (19, [.inr (.aload_n 0), .inr (.iload 5)], .inr (.inr (1, 82, 4))),
  (25, [.inr .land], .inr (.inr (1, 47, 5))),
  (29, [.inr (.istore 6), .inr (.iload 6), .inr (.iload 4)], .inl (.le, true, 7, 6)),
  (38, [.inr (.iload 5)], .inr (.inr (0, 8, 0))),
  (43, [.inr (.iload_n 3)], .inr (.inr (0, 8, 1))),
  (44, [.inr (.istore_n 3), .inr (.iload 6), .inr (.iload 4)], .inl (.le, true, 10, 9)),
  (52, [.inr (.iload 6)], .inr (.inr (0, 11, 0))),
  (57, [.inr (.iload 4)], .inr (.inr (0, 11, 1))),
  (59, [.inr (.istore 4), .inr (.iinc 5 1)], .inr (.inr (0, 1, 0))),
  (67, [.inr (.iload_n 3)], .inr (.inr (2, 1, 0)))]
def zp_N_nestedOf : List zB := [(0, [.inr (.aload_n 0)], .inr (.inr (1, 59, 1))),
  (4, [.inl (.int 0), .inr (.istore_n 3), .inl (.int 0), .inr (.istore 4)], .inr (.inr (0, 2, 1))),
  (9, [.inr (.iload 4), .inr (.aload_n 0), .inr (.invokeinterface 5 10)], .inl (.ge, true, 9, 3)),
  (18, [.inr (.iload_n 3), .inr (.aload_n 0), .inr (.invokeinterface 5 9), .inr (.iload 4), .inr .laload, .inr (.lload_n 1), .inr .lcmp], .inl (.eq, false, 7, 4)),
  (31, [.inr (.lload_n 1), .inr (.aload_n 0), .inr (.invokeinterface 5 9), .inr (.iload 4), .inr .laload], .inr (.inr (1, 56, 5))),
  (42, [.inl (.long (-1)), .inr .lxor, .inr .land, .inl (.long 0), .inr .lcmp], .inl (.ne, false, 7, 6)),
  (52, [.inl (.int 1)], .inr (.inr (0, 8, 0))),
  (56, [.inl (.int 0)], .inr (.inr (0, 8, 1))),
  (57, [.inr .iadd, .inr (.istore_n 3), .inr (.iinc 4 1)], .inr (.inr (0, 2, 0))),
  (65, [.inr (.iload_n 3)], .inr (.inr (2, 1, 0)))]
def zp_N_largestOf : List zB := [(0, [.inl (.int 0), .inr (.istore_n 2), .inr (.lload_n 0), .inr (.lstore_n 3), .inl (.int 1), .inr (.istore 5)], .inr (.inr (0, 1, 1))),
  (7, [.inr (.lload_n 3), .inl (.long 0), .inr .lcmp], .inl (.eq, false, 3, 2)),
  (13, [.inr (.iload 5), .inr (.istore_n 2), .inr (.lload_n 3), .inl (.long (-1090785346)), .inr .land, .inl (.int 1), .inr .lshr, .inr (.lstore 6), .inr (.lload_n 3), .inr (.lload 6), .inr .land, .inr (.lload_n 3), .inl (.int 6), .inr .lshr, .inr .land, .inr (.lload 6), .inl (.int 6), .inr .lshr, .inr .land, .inr (.lstore_n 3), .inr (.iinc 5 1)], .inr (.inr (0, 1, 0))),
  (47, [.inr (.iload_n 2)], .inr (.inr (2, 1, 0)))]
def zp_N_hole : List zB := [(0, [.inr (.iload_n 1)], .inr (.inr (1, 45, 1))),
  (4, [], .inl (.eq, false, 4, 2)),
  (7, [.inr (.iload_n 2), .inr .i2l, .inl (.long 0), .inl (.long 7)], .inr (.inr (1, 44, 3))),
  (16, [], .inl (.ne, false, 5, 4)),
  (19, [.inl (.int (-1))], .inr (.inr (2, 1, 0))),
  (21, [.inr (.aload_n 0)], .inr (.inr (1, 49, 6))),
  (25, [.inr (.aload_n 0), .inr (.invokeinterface 5 7), .inr (.iload_n 1)], .inr (.inr (1, 46, 7))),
  (33, [], .inl (.ne, false, 9, 8)),
  (36, [.inl (.int (-2))], .inr (.inr (2, 1, 0))),
  (39, [.inr (.aload_n 0), .inr (.iload_n 1)], .inr (.inr (1, 52, 10))),
  (44, [.inr (.lstore_n 3), .inr (.iload_n 2)], .inr (.inl ([(0, 11), (1, 13), (2, 15), (3, 17), (4, 19), (5, 22), (6, 24)], 26))),
  (88, [.inr (.lload_n 3)], .inr (.inr (1, 47, 12))),
  (92, [], .inr (.inr (2, 1, 0))),
  (93, [.inr (.aload_n 0), .inr (.lload_n 3)], .inr (.inr (1, 57, 14))),
  (98, [], .inr (.inr (2, 1, 0))),
  (99, [.inr (.aload_n 0), .inr (.lload_n 3)], .inr (.inr (1, 58, 16))),
  (104, [], .inr (.inr (2, 1, 0))),
  (105, [.inr (.lload_n 3)], .inr (.inr (1, 54, 18))),
  (109, [], .inr (.inr (2, 1, 0))),
  (110, [.inr (.aload_n 0), .inr (.lload_n 3)], .inr (.inr (1, 53, 20))),
  (115, [], .inr (.inr (1, 47, 21))),
  (118, [], .inr (.inr (2, 1, 0))),
  (119, [.inr (.aload_n 0), .inr (.lload_n 3)], .inr (.inr (1, 83, 23))),
  (124, [], .inr (.inr (2, 1, 0))),
  (125, [.inr (.aload_n 0), .inr (.lload_n 3)], .inr (.inr (1, 84, 25))),
  (130, [], .inr (.inr (2, 1, 0))),
  (131, [.inr (.lload_n 3)], .inr (.inr (1, 85, 27))),
  (135, [], .inr (.inr (2, 1, 0)))]
def zp_N_cells : List zB := [(0, [.inr (.iload_n 1)], .inr (.inr (1, 45, 1))),
  (4, [], .inl (.eq, false, 4, 2)),
  (7, [.inr (.iload_n 2), .inr .i2l, .inl (.long 0), .inl (.long 2)], .inr (.inr (1, 44, 3))),
  (16, [], .inl (.ne, false, 5, 4)),
  (19, [.inl (.long (-1))], .inr (.inr (2, 2, 0))),
  (23, [.inr (.aload_n 0)], .inr (.inr (1, 49, 6))),
  (27, [.inr (.aload_n 0), .inr (.invokeinterface 5 7), .inr (.iload_n 1)], .inr (.inr (1, 46, 7))),
  (35, [], .inl (.ne, false, 9, 8)),
  (38, [.inl (.long (-2))], .inr (.inr (2, 2, 0))),
  (42, [.inr (.aload_n 0), .inr (.iload_n 1)], .inr (.inr (1, 52, 10))),
  (47, [.inr (.lstore_n 3), .inr (.iload_n 2)], .inl (.ne, false, 12, 11)),
  (52, [.inr (.lload_n 3)], .inr (.inr (0, 16, 0))),
  (56, [.inr (.iload_n 2), .inl (.int 1)], .inl (.ne, true, 15, 13)),
  (61, [.inr (.aload_n 0), .inr (.lload_n 3)], .inr (.inr (1, 53, 14))),
  (66, [], .inr (.inr (0, 16, 0))),
  (69, [.inr (.lload_n 3)], .inr (.inr (1, 56, 16))),
  (73, [], .inr (.inr (2, 2, 0)))]
def zp_N_partOf : List zB := [(0, [.inr (.aload_n 0), .inr (.lload_n 1)], .inr (.inr (1, 53, 1))),
  (5, [.inr (.lstore 4), .inr (.lload 4), .inr (.aload_n 0), .inl (.int 4)], .inr (.inr (1, 82, 2))),
  (14, [.inl (.long (-1)), .inr .lxor, .inr .land], .inr (.inr (1, 47, 3))),
  (22, [.inr (.istore 6), .inr (.iload 6)], .inl (.ne, false, 5, 4)),
  (29, [.inl (.int 0)], .inr (.inr (0, 9, 0))),
  (33, [.inr (.aload_n 0), .inr (.lload_n 1)], .inr (.inr (1, 58, 6))),
  (38, [.inr (.lload 4), .inr (.aload_n 0), .inr (.iload_n 3)], .inr (.inr (1, 82, 7))),
  (45, [.inr .land], .inr (.inr (1, 47, 8))),
  (49, [.inr .imul, .inr (.iload 6), .inr .idiv], .inr (.inr (0, 9, 1))),
  (53, [], .inr (.inr (2, 1, 0)))]
def zp_N_part : List zB := [(0, [.inr (.iload_n 1)], .inr (.inr (1, 45, 1))),
  (4, [], .inl (.eq, false, 4, 2)),
  (7, [.inr (.iload_n 2), .inr .i2l, .inl (.long 0), .inl (.long 3)], .inr (.inr (1, 44, 3))),
  (16, [], .inl (.ne, false, 5, 4)),
  (19, [.inl (.int (-1))], .inr (.inr (2, 1, 0))),
  (21, [.inr (.aload_n 0)], .inr (.inr (1, 49, 6))),
  (25, [.inr (.aload_n 0), .inr (.invokeinterface 5 7), .inr (.iload_n 1)], .inr (.inr (1, 46, 7))),
  (33, [], .inl (.eq, false, 11, 8)),
  (36, [.inr (.aload_n 0), .inr (.aload_n 0), .inr (.iload_n 1)], .inr (.inr (1, 52, 9))),
  (42, [.inr (.iload_n 2)], .inr (.inr (1, 88, 10))),
  (46, [], .inr (.inr (0, 12, 0))),
  (49, [.inl (.int (-2))], .inr (.inr (0, 12, 1))),
  (51, [], .inr (.inr (2, 1, 0)))]
def zp_N_pays : List zB := [(0, [.inr (.iload_n 1), .inr .i2l, .inl (.long 0), .inl (.long 3)], .inr (.inr (1, 44, 1))),
  (9, [], .inl (.ne, false, 3, 2)),
  (12, [.inl (.int (-1))], .inr (.inr (2, 1, 0))),
  (14, [.inr (.aload_n 0)], .inr (.inr (1, 49, 4))),
  (18, [.inr (.aload_n 0)], .inr (.inr (1, 59, 5))),
  (22, [.inl (.int 0), .inr (.istore_n 2), .inl (.int 0), .inr (.istore_n 3)], .inr (.inr (0, 6, 1))),
  (26, [.inr (.iload_n 3), .inr (.aload_n 0), .inr (.invokeinterface 5 10)], .inl (.ge, true, 9, 7)),
  (34, [.inr (.iload_n 2), .inr (.aload_n 0), .inr (.aload_n 0), .inr (.invokeinterface 5 9), .inr (.iload_n 3), .inr .laload, .inr (.iload_n 1)], .inr (.inr (1, 88, 8))),
  (46, [.inr .iadd, .inr (.istore_n 2), .inr (.iinc 3 1)], .inr (.inr (0, 6, 0))),
  (54, [.inr (.iload_n 2)], .inr (.inr (2, 1, 0)))]
def zp_N_worth : List zB := [(0, [.inr (.iload_n 1), .inr .i2l, .inl (.long 0), .inl (.long 3)], .inr (.inr (1, 44, 1))),
  (9, [], .inl (.ne, false, 3, 2)),
  (12, [.inl (.int (-100001))], .inr (.inr (2, 1, 0))),
  (15, [.inr (.aload_n 0)], .inr (.inr (1, 49, 4))),
  (19, [.inr (.aload_n 0)], .inr (.inr (1, 60, 5))),
  (23, [.inr (.istore_n 2), .inr (.aload_n 0), .inr .dup, .inr (.invokeinterface 5 7), .inr (.aload_n 0), .inr (.iload_n 1)], .inr (.inr (1, 82, 6))),
  (34, [.inl (.long (-1)), .inr .lxor, .inr .land, .inr (.multianewarray 5 7), .inr (.iload_n 2), .inr (.aload_n 0)], .inr (.inr (1, 60, 7))),
  (47, [.inr .isub], .inr (.inr (2, 1, 0)))]
def zp_N_filled : List zB := [(0, [.inr (.iload_n 1), .inr .i2l, .inl (.long 0), .inl (.long 9999)], .inr (.inr (1, 44, 1))),
  (9, [], .inl (.eq, false, 4, 2)),
  (12, [.inr (.iload_n 2), .inr .i2l, .inl (.long (-1)), .inl (.long 1)], .inr (.inr (1, 44, 3))),
  (21, [], .inl (.ne, false, 5, 4)),
  (24, [.inl (.int (-1))], .inr (.inr (2, 1, 0))),
  (26, [.inr (.aload_n 0)], .inr (.inr (1, 49, 6))),
  (30, [.inr (.aload_n 0), .inr (.iload_n 1), .inl (.long 0)], .inr (.inr (1, 93, 7))),
  (36, [.inr (.istore_n 3), .inr (.iload_n 3)], .inl (.lt, false, 9, 8)),
  (41, [.inr (.iload_n 2)], .inl (.ge, false, 10, 9)),
  (45, [.inr (.iload_n 3)], .inr (.inr (0, 13, 0))),
  (49, [.inr (.iload_n 2), .inr (.iload_n 3)], .inl (.ge, true, 12, 11)),
  (54, [.inr (.aload_n 0), .inr (.invokeinterface 5 16), .inr (.iload_n 2), .inr .iaload], .inr (.inr (0, 13, 0))),
  (63, [.inl (.int (-4))], .inr (.inr (0, 13, 1))),
  (65, [], .inr (.inr (2, 1, 0)))]
def zp_N_fewestFilled : List zB := [(0, [.inr (.aload_n 0), .inl (.long 0), .inr (.iload_n 1), .inr (.lload_n 2)], .inr (.inr (1, 94, 1))),
  (7, [], .inl (.eq, false, 3, 2)),
  (10, [.inl (.int 0)], .inr (.inr (2, 1, 0))),
  (12, [.inr (.lload_n 2), .inl (.long 0), .inr .lcmp], .inl (.ne, false, 5, 4)),
  (18, [.inr (.aload_n 0), .inr (.invokeinterface 5 7)], .inr (.inr (0, 6, 0))),
  (25, [.inr (.lload_n 2)], .inr (.inr (0, 6, 1))),
  (26, [.inr (.lstore 4), .inl (.int 0), .inr (.istore 6)], .inr (.inr (0, 7, 1))),
  (31, [.inr (.iload 6), .inl (.int 36)], .inl (.ge, true, 14, 8)),
  (38, [.inr (.lload 4), .inr (.iload 6)], .inr (.inr (1, 46, 9))),
  (45, [], .inl (.eq, false, 13, 10)),
  (48, [.inr (.aload_n 0), .inl (.long 1), .inr (.iload 6), .inr .lshl, .inr (.iload_n 1), .inr (.lload_n 2)], .inr (.inr (1, 94, 11))),
  (58, [], .inl (.eq, false, 13, 12)),
  (61, [.inr (.aload_n 0), .inr (.invokeinterface 5 16), .inl (.int 0), .inr (.iload 6), .inr .iastore, .inl (.int 1)], .inr (.inr (2, 1, 0))),
  (71, [.inr (.iinc 6 1)], .inr (.inr (0, 7, 0))),
  (77, [.inl (.int 0), .inr (.istore 6)], .inr (.inr (0, 15, 1))),
  (80, [.inr (.iload 6), .inl (.int 36)], .inl (.ge, true, 27, 16)),
  (87, [.inr (.iload 6), .inl (.int 1), .inr .iadd, .inr (.istore 7)], .inr (.inr (0, 17, 1))),
  (93, [.inr (.iload 7), .inl (.int 36)], .inl (.ge, true, 26, 18)),
  (100, [.inr (.lload 4), .inr (.iload 6)], .inr (.inr (1, 46, 19))),
  (107, [], .inl (.eq, false, 25, 20)),
  (110, [.inr (.lload 4), .inr (.iload 7)], .inr (.inr (1, 46, 21))),
  (117, [], .inl (.eq, false, 25, 22)),
  (120, [.inr (.aload_n 0), .inl (.long 1), .inr (.iload 6), .inr .lshl, .inl (.long 1), .inr (.iload 7), .inr .lshl, .inr .lor, .inr (.iload_n 1), .inr (.lload_n 2)], .inr (.inr (1, 94, 23))),
  (135, [], .inl (.eq, false, 25, 24)),
  (138, [.inr (.aload_n 0), .inr (.invokeinterface 5 16), .inl (.int 0), .inr (.iload 6), .inr .iastore, .inr (.aload_n 0), .inr (.invokeinterface 5 16), .inl (.int 1), .inr (.iload 7), .inr .iastore, .inl (.int 2)], .inr (.inr (2, 1, 0))),
  (156, [.inr (.iinc 7 1)], .inr (.inr (0, 17, 0))),
  (162, [.inr (.iinc 6 1)], .inr (.inr (0, 15, 0))),
  (168, [.inl (.int (-4))], .inr (.inr (2, 1, 0)))]
def zp_N_does : List zB := [(0, [.inr (.lload 4), .inl (.long 0), .inr .lcmp], .inl (.eq, false, 8, 1)),
  (7, [.inr (.lload 4), .inr (.lload_n 1), .inl (.long (-1)), .inr .lxor, .inr .land, .inr (.lstore 6), .inr (.lload 6), .inl (.long 0), .inr .lcmp], .inl (.eq, false, 6, 2)),
  (24, [.inl (.long 1), .inr (.lload 6)], .inr (.inr (1, 48, 3))),
  (30, [.inr .lshl, .inr (.lload 6)], .inr (.inr (1, 51, 4))),
  (36, [.inr (.lload 6), .inr .lcmp], .inl (.eq, false, 6, 5)),
  (42, [.inl (.int 1)], .inr (.inr (0, 7, 0))),
  (46, [.inl (.int 0)], .inr (.inr (0, 7, 1))),
  (47, [], .inr (.inr (2, 3, 0))),
  (48, [.inr (.aload_n 0), .inr (.invokeinterface 5 7), .inr (.lstore 6), .inr (.aload_n 0), .inr .dup, .inr (.invokeinterface 5 7), .inr (.lload_n 1), .inl (.long (-1)), .inr .lxor, .inr .land, .inr (.multianewarray 5 7), .inr (.aload_n 0)], .inr (.inr (1, 60, 9))),
  (72, [.inr (.iload_n 3)], .inl (.gt, true, 11, 10)),
  (76, [.inl (.int 1)], .inr (.inr (0, 12, 0))),
  (80, [.inl (.int 0)], .inr (.inr (0, 12, 1))),
  (81, [.inr (.istore 8), .inr (.aload_n 0), .inr (.lload 6), .inr (.multianewarray 5 7), .inr (.iload 8)], .inr (.inr (2, 3, 0)))]
def zp_N_split : List zB := [(0, [.inr (.iload_n 1)], .inr (.inr (1, 45, 1))),
  (4, [], .inl (.eq, false, 4, 2)),
  (7, [.inr (.iload_n 2), .inr .i2l, .inl (.long (-1)), .inl (.long 1)], .inr (.inr (1, 44, 3))),
  (16, [], .inl (.ne, false, 5, 4)),
  (19, [.inl (.int (-1))], .inr (.inr (2, 1, 0))),
  (21, [.inr (.aload_n 0)], .inr (.inr (1, 49, 6))),
  (25, [.inr (.aload_n 0), .inr (.invokeinterface 5 7), .inr (.iload_n 1)], .inr (.inr (1, 46, 7))),
  (33, [], .inl (.ne, false, 9, 8)),
  (36, [.inl (.int (-2))], .inr (.inr (2, 1, 0))),
  (39, [.inr (.aload_n 0), .inl (.int 0), .inr (.aload_n 0), .inr (.iload_n 1)], .inr (.inr (1, 52, 10))),
  (46, [], .inr (.inr (1, 93, 11))),
  (49, [.inr (.istore_n 3), .inr (.iload_n 3)], .inl (.lt, false, 13, 12)),
  (54, [.inr (.iload_n 2)], .inl (.ge, false, 14, 13)),
  (58, [.inr (.iload_n 3)], .inr (.inr (0, 17, 0))),
  (62, [.inr (.iload_n 2), .inr (.iload_n 3)], .inl (.ge, true, 16, 15)),
  (67, [.inr (.aload_n 0), .inr (.invokeinterface 5 16), .inr (.iload_n 2), .inr .iaload], .inr (.inr (0, 17, 0))),
  (76, [.inl (.int (-4))], .inr (.inr (0, 17, 1))),
  (78, [], .inr (.inr (2, 1, 0)))]
def zp_N_fewestDug : List zB := [(0, [.inr (.lload_n 1), .inr (.aload_n 0), .inr (.invokeinterface 5 7)], .inr (.inr (1, 51, 1))),
  (8, [.inr (.lstore 7), .inl (.int 0), .inr (.istore 9)], .inr (.inr (0, 2, 1))),
  (13, [.inr (.lload 7), .inr (.lload_n 3), .inr .land, .inl (.long 0), .inr .lcmp], .inl (.ne, false, 7, 3)),
  (22, [.inr (.iload 9), .inl (.int 40)], .inl (.ge, true, 7, 4)),
  (29, [.inr (.lload 7), .inr (.lload 7)], .inr (.inr (1, 50, 5))),
  (36, [.inr (.lload 5), .inr .land, .inr .lor, .inr (.lstore 10), .inr (.lload 10), .inr (.aload_n 0), .inr (.invokeinterface 5 7), .inr (.lload 10), .inr .lor], .inr (.inr (1, 51, 6))),
  (54, [.inr (.lstore 7), .inr (.iinc 9 1)], .inr (.inr (0, 2, 0))),
  (62, [.inr (.iload 9)], .inr (.inr (2, 1, 0)))]
def zp_N_dug : List zB := [(0, [.inr (.iload_n 1)], .inr (.inr (1, 45, 1))),
  (4, [], .inl (.eq, false, 6, 2)),
  (7, [.inr (.iload_n 2)], .inr (.inr (1, 45, 3))),
  (11, [], .inl (.eq, false, 6, 4)),
  (14, [.inr (.iload_n 3), .inr .i2l, .inl (.long (-1)), .inl (.long 9)], .inr (.inr (1, 44, 5))),
  (25, [], .inl (.ne, false, 7, 6)),
  (28, [.inl (.int (-1))], .inr (.inr (2, 1, 0))),
  (30, [.inr (.aload_n 0)], .inr (.inr (1, 49, 8))),
  (34, [.inr (.aload_n 0), .inr (.invokeinterface 5 7), .inr (.iload_n 1)], .inr (.inr (1, 46, 9))),
  (42, [], .inl (.eq, false, 15, 10)),
  (45, [.inr (.aload_n 0), .inr (.invokeinterface 5 7), .inr (.iload_n 2)], .inr (.inr (1, 46, 11))),
  (53, [], .inl (.eq, false, 15, 12)),
  (56, [.inr (.aload_n 0), .inr (.iload_n 1)], .inr (.inr (1, 52, 13))),
  (61, [.inr (.iload_n 2)], .inr (.inr (1, 46, 14))),
  (65, [], .inl (.eq, false, 16, 15)),
  (68, [.inl (.int (-2))], .inr (.inr (2, 1, 0))),
  (71, [.inl (.long 1), .inr (.iload_n 1), .inr .lshl, .inr (.lstore 4), .inl (.long 1), .inr (.iload_n 2), .inr .lshl, .inr (.lstore 6), .inr (.aload_n 0), .inr (.lload 4), .inr (.lload 6), .inl (.long 68719476735)], .inr (.inr (1, 96, 17))),
  (92, [.inr (.istore 8), .inl (.long 68719476735), .inr (.aload_n 0), .inr (.invokeinterface 5 7), .inl (.long (-1)), .inr .lxor, .inr .land, .inr (.lstore 9), .inl (.int 0), .inr (.istore 11), .inl (.int 0), .inr (.istore 12)], .inr (.inr (0, 18, 1))),
  (114, [.inr (.iload 12), .inr (.iload 8)], .inl (.ge, true, 33, 19)),
  (121, [.inr (.iload 12), .inr (.iload_n 3)], .inl (.gt, true, 33, 20)),
  (127, [.inl (.int 0), .inr (.istore 13)], .inr (.inr (0, 21, 1))),
  (130, [.inr (.iload 13)], .inl (.ne, false, 32, 22)),
  (135, [.inr (.lload 9), .inl (.long 1), .inr (.iload 11), .inl (.int 1), .inr .iadd, .inr .lshl, .inl (.long 1), .inr .lsub, .inl (.long (-1)), .inr .lxor, .inr .land, .inr (.lstore 14), .inr (.aload_n 0), .inr (.invokeinterface 5 7), .inr (.lstore 16), .inr (.lload 9), .inr (.iload 11)], .inr (.inr (1, 46, 23))),
  (165, [.inr (.istore 13), .inr (.aload_n 0), .inr .dup, .inr (.invokeinterface 5 7), .inl (.long 1), .inr (.iload 11), .inr .lshl, .inr .lor, .inr (.multianewarray 5 7), .inr (.iload 13)], .inl (.eq, false, 27, 24)),
  (185, [.inr (.aload_n 0), .inr (.lload 4), .inr (.lload 6), .inr (.lload 14)], .inr (.inr (1, 96, 25))),
  (195, [.inr (.iload 8), .inr (.iload 12), .inr .isub, .inl (.int 1), .inr .isub], .inl (.ne, true, 27, 26)),
  (205, [.inl (.int 1)], .inr (.inr (0, 28, 0))),
  (209, [.inl (.int 0)], .inr (.inr (0, 28, 1))),
  (210, [.inr (.istore 13), .inr (.aload_n 0), .inr (.iload 13)], .inl (.eq, false, 30, 29)),
  (218, [.inr (.aload_n 0), .inr (.invokeinterface 5 7)], .inr (.inr (0, 31, 0))),
  (225, [.inr (.lload 16)], .inr (.inr (0, 31, 1))),
  (227, [.inr (.multianewarray 5 7), .inr (.aload_n 0), .inr (.invokeinterface 5 16), .inr (.iload 12), .inr (.iload 11), .inr .iastore, .inr (.iinc 11 1)], .inr (.inr (0, 21, 0))),
  (245, [.inr (.iinc 12 1)], .inr (.inr (0, 18, 0))),
  (251, [.inr (.iload_n 3)], .inl (.ge, false, 35, 34)),
  (255, [.inr (.iload 8)], .inr (.inr (0, 38, 0))),
  (260, [.inr (.iload_n 3), .inr (.iload 8)], .inl (.ge, true, 37, 36)),
  (266, [.inr (.aload_n 0), .inr (.invokeinterface 5 16), .inr (.iload_n 3), .inr .iaload], .inr (.inr (0, 38, 0))),
  (275, [.inl (.int (-4))], .inr (.inr (0, 38, 1))),
  (277, [], .inr (.inr (2, 1, 0)))]
def zp_N_loophole : List zB := [(0, [.inr (.aload_n 0)], .inr (.inr (1, 49, 1))),
  (4, [.inr (.aload_n 0)], .inr (.inr (1, 60, 2))),
  (8, [.inr (.istore_n 1), .inl (.int (-4)), .inr (.istore_n 2), .inl (.int 0), .inr (.istore_n 3)], .inr (.inr (0, 3, 1))),
  (14, [.inr (.iload_n 3), .inl (.int 36)], .inl (.ge, true, 14, 4)),
  (20, [.inr (.aload_n 0), .inr (.invokeinterface 5 0), .inr (.iload_n 3), .inr .iaload], .inl (.ne, false, 13, 5)),
  (29, [.inr (.aload_n 0), .inr .dup, .inr (.invokeinterface 5 7), .inl (.long 1), .inr (.iload_n 3), .inr .lshl, .inr .lor, .inr (.multianewarray 5 7), .inr (.aload_n 0)], .inr (.inr (1, 60, 6))),
  (45, [.inr (.istore 4), .inr (.aload_n 0), .inr .dup, .inr (.invokeinterface 5 7), .inl (.long 1), .inr (.iload_n 3), .inr .lshl, .inl (.long (-1)), .inr .lxor, .inr .land, .inr (.multianewarray 5 7), .inr (.iload 4), .inr (.iload_n 1)], .inl (.ge, true, 8, 7)),
  (69, [.inr (.iload_n 3)], .inr (.inr (0, 9, 0))),
  (73, [.inr (.iload_n 2)], .inr (.inr (0, 9, 1))),
  (74, [.inr (.istore_n 2), .inr (.iload 4), .inr (.iload_n 1)], .inl (.ge, true, 11, 10)),
  (81, [.inr (.iload 4)], .inr (.inr (0, 12, 0))),
  (86, [.inr (.iload_n 1)], .inr (.inr (0, 12, 1))),
  (87, [.inr (.istore_n 1)], .inr (.inr (0, 13, 1))),
  (88, [.inr (.iinc 3 1)], .inr (.inr (0, 3, 0))),
  (94, [.inr (.iload_n 2)], .inr (.inr (2, 1, 0)))]
def zp_N_roofs : List zB := [(0, [.inr (.iload_n 1)], .inr (.inr (1, 45, 1))),
  (4, [], .inl (.ne, false, 3, 2)),
  (7, [.inl (.int (-1))], .inr (.inr (2, 1, 0))),
  (9, [.inr (.aload_n 0)], .inr (.inr (1, 49, 4))),
  (13, [.inr (.aload_n 0), .inr (.invokeinterface 5 7), .inr (.iload_n 1)], .inr (.inr (1, 46, 5))),
  (21, [], .inl (.eq, false, 9, 6)),
  (24, [.inr (.aload_n 0), .inr (.iload_n 1)], .inr (.inr (1, 52, 7))),
  (29, [.inr (.aload_n 0), .inr (.invokeinterface 5 2), .inl (.long (-1)), .inr .lxor, .inr .land], .inr (.inr (1, 47, 8))),
  (41, [], .inr (.inr (0, 10, 0))),
  (44, [.inl (.int (-2))], .inr (.inr (0, 10, 1))),
  (46, [], .inr (.inr (2, 1, 0)))]
def zp_N_nextOrder : List zB := [(0, [.inr (.iload_n 1), .inl (.int 2), .inr .isub, .inr (.istore_n 2)], .inr (.inr (0, 1, 1))),
  (4, [.inr (.iload_n 2)], .inl (.lt, false, 4, 2)),
  (8, [.inr (.aload_n 0), .inr (.invokeinterface 5 17), .inr (.iload_n 2), .inr .iaload, .inr (.aload_n 0), .inr (.invokeinterface 5 17), .inr (.iload_n 2), .inl (.int 1), .inr .iadd, .inr .iaload], .inl (.le, true, 4, 3)),
  (25, [.inr (.iinc 2 (-1))], .inr (.inr (0, 1, 0))),
  (31, [.inr (.iload_n 2)], .inl (.ge, false, 6, 5)),
  (35, [.inl (.int 0)], .inr (.inr (2, 3, 0))),
  (37, [.inr (.iload_n 1), .inl (.int 1), .inr .isub, .inr (.istore_n 3)], .inr (.inr (0, 7, 1))),
  (41, [.inr (.aload_n 0), .inr (.invokeinterface 5 17), .inr (.iload_n 3), .inr .iaload, .inr (.aload_n 0), .inr (.invokeinterface 5 17), .inr (.iload_n 2), .inr .iaload], .inl (.ge, true, 9, 8)),
  (56, [.inr (.iinc 3 (-1))], .inr (.inr (0, 7, 0))),
  (62, [.inr (.aload_n 0), .inr (.invokeinterface 5 17), .inr (.iload_n 2), .inr .iaload, .inr (.istore 4), .inr (.aload_n 0), .inr (.invokeinterface 5 17), .inr (.iload_n 2), .inr (.aload_n 0), .inr (.invokeinterface 5 17), .inr (.iload_n 3), .inr .iaload, .inr .iastore, .inr (.aload_n 0), .inr (.invokeinterface 5 17), .inr (.iload_n 3), .inr (.iload 4), .inr .iastore, .inr (.iload_n 1), .inl (.int 1), .inr .isub, .inr (.istore 5), .inr (.iload_n 2), .inl (.int 1), .inr .iadd, .inr (.istore 6)], .inr (.inr (0, 10, 1))),
  (100, [.inr (.iload 6), .inr (.iload 5)], .inl (.ge, true, 12, 11)),
  (107, [.inr (.aload_n 0), .inr (.invokeinterface 5 17), .inr (.iload 6), .inr .iaload, .inr (.istore 4), .inr (.aload_n 0), .inr (.invokeinterface 5 17), .inr (.iload 6), .inr (.aload_n 0), .inr (.invokeinterface 5 17), .inr (.iload 5), .inr .iaload, .inr .iastore, .inr (.aload_n 0), .inr (.invokeinterface 5 17), .inr (.iload 5), .inr (.iload 4), .inr .iastore, .inr (.iinc 5 (-1)), .inr (.iinc 6 1)], .inr (.inr (0, 10, 0))),
  (148, [.inl (.int 1)], .inr (.inr (2, 3, 0)))]
def zp_N_off : List zB := [(0, [.inr (.iload_n 0), .inr (.iload_n 1)], .inl (.le, true, 2, 1)),
  (5, [.inr (.iload_n 0), .inr (.iload_n 1), .inr .isub], .inr (.inr (0, 3, 0))),
  (11, [.inr (.iload_n 1), .inr (.iload_n 0), .inr .isub], .inr (.inr (0, 3, 1))),
  (14, [], .inr (.inr (2, 1, 0)))]
def zp_N_apart : List zB := [(0, [.inr (.iload_n 0), .inl (.int 6), .inr .idiv, .inr (.iload_n 1), .inl (.int 6), .inr .idiv], .inr (.inr (1, 101, 1))),
  (11, [.inr (.iload_n 0), .inl (.int 6), .inr .irem, .inr (.iload_n 1), .inl (.int 6), .inr .irem], .inr (.inr (1, 101, 2))),
  (22, [.inr .iadd], .inr (.inr (2, 1, 0)))]
def zp_N_nearest : List zB := [(0, [.inr (.lload_n 0)], .inr (.inr (1, 48, 1))),
  (4, [.inr (.istore_n 3), .inl (.int 0), .inr (.istore 4)], .inr (.inr (0, 2, 1))),
  (8, [.inr (.iload 4), .inl (.int 36)], .inl (.ge, true, 11, 3)),
  (15, [.inr (.lload_n 0), .inr (.iload 4)], .inr (.inr (1, 46, 4))),
  (21, [], .inl (.eq, false, 9, 5)),
  (24, [.inr (.iload 4), .inr (.iload_n 2)], .inr (.inr (1, 102, 6))),
  (30, [.inr (.iload_n 3), .inr (.iload_n 2)], .inr (.inr (1, 102, 7))),
  (35, [], .inl (.ge, true, 9, 8)),
  (38, [.inr (.iload 4)], .inr (.inr (0, 10, 0))),
  (43, [.inr (.iload_n 3)], .inr (.inr (0, 10, 1))),
  (44, [.inr (.istore_n 3), .inr (.iinc 4 1)], .inr (.inr (0, 2, 0))),
  (51, [.inr (.iload_n 3)], .inr (.inr (2, 1, 0)))]
def zp_N_stepsOf : List zB := [(0, [.inr (.iload_n 1), .inr (.istore_n 3), .inl (.int 0), .inr (.istore 4), .inl (.int 0), .inr (.istore 5)], .inr (.inr (0, 1, 1))),
  (8, [.inr (.iload 5), .inr (.iload_n 2)], .inl (.ge, true, 4, 2)),
  (14, [.inr (.aload_n 0), .inr (.invokeinterface 5 19), .inl (.int 8), .inr (.iload_n 3), .inr .imul, .inr (.aload_n 0), .inr (.invokeinterface 5 17), .inr (.iload 5), .inr .iaload, .inr .iadd, .inr .iaload, .inr (.istore 6), .inr (.iload 4), .inr (.iload_n 3), .inr (.iload 6)], .inr (.inr (1, 102, 3))),
  (41, [.inr .iadd, .inr (.istore 4), .inr (.iload 6), .inr (.istore_n 3), .inr (.iinc 5 1)], .inr (.inr (0, 1, 0))),
  (53, [.inr (.iload 4)], .inr (.inr (2, 1, 0)))]
def zp_N_round : List zB := [(0, [.inr (.iload_n 1)], .inr (.inr (1, 45, 1))),
  (4, [], .inl (.eq, false, 4, 2)),
  (7, [.inr (.iload_n 2), .inr .i2l, .inl (.long (-1)), .inl (.long 7)], .inr (.inr (1, 44, 3))),
  (18, [], .inl (.ne, false, 5, 4)),
  (21, [.inl (.int (-1))], .inr (.inr (2, 1, 0))),
  (23, [.inr (.aload_n 0)], .inr (.inr (1, 49, 6))),
  (27, [.inr (.aload_n 0)], .inr (.inr (1, 59, 7))),
  (31, [.inr (.aload_n 0), .inr (.invokeinterface 5 10), .inl (.int 8)], .inl (.le, true, 9, 8)),
  (40, [.inl (.int (-3))], .inr (.inr (2, 1, 0))),
  (43, [.inr (.aload_n 0), .inr (.invokeinterface 5 10), .inr (.istore_n 3), .inl (.int 0), .inr (.istore 4)], .inr (.inr (0, 10, 1))),
  (51, [.inr (.iload 4), .inl (.int 36), .inr (.iload_n 3), .inr .imul], .inl (.ge, true, 13, 11)),
  (60, [.inr (.aload_n 0), .inr (.invokeinterface 5 19), .inl (.int 8), .inr (.iload 4), .inr (.iload_n 3), .inr .idiv, .inr .imul, .inr (.iload 4), .inr (.iload_n 3), .inr .irem, .inr .iadd, .inr (.aload_n 0), .inr (.invokeinterface 5 9), .inr (.iload 4), .inr (.iload_n 3), .inr .irem, .inr .laload, .inr (.iload 4), .inr (.iload_n 3), .inr .idiv], .inr (.inr (1, 103, 12))),
  (92, [.inr .iastore, .inr (.iinc 4 1)], .inr (.inr (0, 10, 0))),
  (99, [.inl (.int 0), .inr (.istore 4)], .inr (.inr (0, 14, 1))),
  (102, [.inr (.iload 4), .inr (.iload_n 3)], .inl (.ge, true, 16, 15)),
  (108, [.inr (.aload_n 0), .inr (.invokeinterface 5 17), .inr (.iload 4), .inr (.iload 4), .inr .iastore, .inr (.iinc 4 1)], .inr (.inr (0, 14, 0))),
  (123, [.inl (.int (-1)), .inr (.istore 4), .inl (.int 1), .inr (.istore 5)], .inr (.inr (0, 17, 1))),
  (129, [.inr (.iload 5)], .inl (.eq, false, 26, 18)),
  (134, [.inr (.aload_n 0), .inr (.iload_n 1), .inr (.iload_n 3)], .inr (.inr (1, 104, 19))),
  (140, [.inr (.istore 6), .inr (.iload 4)], .inl (.lt, false, 21, 20)),
  (147, [.inr (.iload 6), .inr (.iload 4)], .inl (.ge, true, 24, 21)),
  (154, [.inr (.iload 6), .inr (.istore 4), .inl (.int 0), .inr (.istore 7)], .inr (.inr (0, 22, 1))),
  (161, [.inr (.iload 7), .inr (.iload_n 3)], .inl (.ge, true, 24, 23)),
  (167, [.inr (.aload_n 0), .inr (.invokeinterface 5 18), .inr (.iload 7), .inr (.aload_n 0), .inr (.invokeinterface 5 17), .inr (.iload 7), .inr .iaload, .inr .iastore, .inr (.iinc 7 1)], .inr (.inr (0, 22, 0))),
  (187, [.inr (.aload_n 0), .inr (.iload_n 3)], .inr (.inr (1, 100, 25))),
  (192, [.inr (.istore 5)], .inr (.inr (0, 17, 0))),
  (197, [.inr (.iload_n 2)], .inl (.ge, false, 28, 27)),
  (201, [.inr (.iload 4)], .inr (.inr (0, 32, 0))),
  (206, [.inr (.iload_n 2), .inr (.iload_n 3)], .inl (.ge, true, 31, 29)),
  (211, [.inr (.aload_n 0), .inr (.invokeinterface 5 9), .inr (.aload_n 0), .inr (.invokeinterface 5 18), .inr (.iload_n 2), .inr .iaload, .inr .laload], .inr (.inr (1, 48, 30))),
  (225, [], .inr (.inr (0, 32, 0))),
  (228, [.inl (.int (-4))], .inr (.inr (0, 32, 1))),
  (230, [], .inr (.inr (2, 1, 0)))]
def zp_N_border : List zB := [(0, [.inr (.iload_n 1), .inr .i2l, .inl (.long 0), .inl (.long 1)], .inr (.inr (1, 44, 1))),
  (7, [], .inl (.ne, false, 3, 2)),
  (10, [.inl (.int (-1))], .inr (.inr (2, 1, 0))),
  (12, [.inr (.aload_n 0)], .inr (.inr (1, 49, 4))),
  (16, [.inr (.aload_n 0)], .inr (.inr (1, 59, 5))),
  (20, [.inl (.int (-1)), .inr (.istore_n 2), .inl (.int 0), .inr (.istore_n 3)], .inr (.inr (0, 6, 1))),
  (24, [.inr (.iload_n 3), .inr (.aload_n 0), .inr (.invokeinterface 5 10)], .inl (.ge, true, 14, 7)),
  (32, [.inr (.iload_n 2)], .inl (.lt, false, 11, 8)),
  (36, [.inr (.aload_n 0), .inr (.invokeinterface 5 9), .inr (.iload_n 3), .inr .laload], .inr (.inr (1, 47, 9))),
  (45, [.inr (.aload_n 0), .inr (.invokeinterface 5 9), .inr (.iload_n 2), .inr .laload], .inr (.inr (1, 47, 10))),
  (54, [], .inl (.le, true, 12, 11)),
  (57, [.inr (.iload_n 3)], .inr (.inr (0, 13, 0))),
  (61, [.inr (.iload_n 2)], .inr (.inr (0, 13, 1))),
  (62, [.inr (.istore_n 2), .inr (.iinc 3 1)], .inr (.inr (0, 6, 0))),
  (69, [.inr (.iload_n 2)], .inl (.ge, false, 16, 15)),
  (73, [.inl (.int (-4))], .inr (.inr (0, 20, 0))),
  (78, [.inr (.iload_n 1)], .inl (.ne, false, 19, 17)),
  (82, [.inr (.aload_n 0), .inr (.invokeinterface 5 9), .inr (.iload_n 2), .inr .laload], .inr (.inr (1, 48, 18))),
  (91, [], .inr (.inr (0, 20, 0))),
  (94, [.inr (.aload_n 0), .inr (.invokeinterface 5 9), .inr (.iload_n 2), .inr .laload], .inr (.inr (1, 54, 20))),
  (103, [], .inr (.inr (2, 1, 0)))]
def zp_N_cut : List zB := [(0, [.inr (.iload_n 1)], .inr (.inr (1, 45, 1))),
  (4, [], .inl (.ne, false, 3, 2)),
  (7, [.inl (.int (-1))], .inr (.inr (2, 1, 0))),
  (9, [.inr (.aload_n 0)], .inr (.inr (1, 49, 4))),
  (13, [.inr (.aload_n 0), .inr (.invokeinterface 5 7), .inr (.iload_n 1)], .inr (.inr (1, 46, 5))),
  (21, [], .inl (.ne, false, 7, 6)),
  (24, [.inl (.int (-2))], .inr (.inr (2, 1, 0))),
  (27, [.inr (.aload_n 0), .inr (.iload_n 1)], .inr (.inr (1, 52, 8))),
  (32, [.inr (.lstore_n 2), .inr (.aload_n 0), .inr (.lload_n 2)], .inr (.inr (1, 53, 9))),
  (38, [.inr (.lstore 4), .inr (.lload_n 2)], .inr (.inr (1, 85, 10))),
  (44, [.inr (.istore 6), .inl (.int 0), .inr (.istore 7)], .inr (.inr (0, 11, 1))),
  (49, [.inr (.iload 7), .inl (.int 36)], .inl (.ge, true, 19, 12)),
  (56, [.inr (.lload 4), .inr (.iload 7)], .inr (.inr (1, 46, 13))),
  (63, [], .inl (.eq, false, 18, 14)),
  (66, [.inl (.long 1), .inr (.iload 7), .inr .lshl, .inr (.aload_n 0), .inr (.invokeinterface 5 7), .inl (.long 1), .inr (.iload 7), .inr .lshl, .inr .lor], .inr (.inr (1, 51, 15))),
  (82, [], .inr (.inr (1, 85, 16))),
  (85, [.inr (.iload 6)], .inl (.le, true, 18, 17)),
  (90, [.inr (.iload 7)], .inr (.inr (2, 1, 0))),
  (93, [.inr (.iinc 7 1)], .inr (.inr (0, 11, 0))),
  (99, [.inl (.int (-4))], .inr (.inr (2, 1, 0)))]
def zp_N_books : List zB := [(0, [.inr (.lload_n 1), .inl (.long 0), .inl (.long 68719476735)], .inr (.inr (1, 44, 1))),
  (8, [], .inl (.eq, false, 10, 2)),
  (11, [.inr (.lload_n 1)], .inr (.inr (1, 47, 3))),
  (15, [.inl (.int 6)], .inl (.gt, true, 10, 4)),
  (20, [.inr (.iload_n 3), .inr .i2l, .inl (.long (-1)), .inl (.long 36)], .inr (.inr (1, 44, 5))),
  (31, [], .inl (.eq, false, 10, 6)),
  (34, [.inr (.iload 4), .inr .i2l, .inl (.long (-1)), .inl (.long 9999)], .inr (.inr (1, 44, 7))),
  (46, [], .inl (.eq, false, 10, 8)),
  (49, [.inr (.iload 5), .inr .i2l, .inl (.long 0), .inl (.long 3)], .inr (.inr (1, 44, 9))),
  (59, [], .inl (.ne, false, 11, 10)),
  (62, [.inl (.long (-1))], .inr (.inr (2, 2, 0))),
  (66, [.inr (.aload_n 0)], .inr (.inr (1, 49, 12))),
  (70, [.inr (.aload_n 0), .inr (.invokeinterface 5 7), .inr (.lload_n 1), .inl (.long (-1)), .inr .lxor, .inr .land, .inr (.lstore 6), .inr (.aload_n 0), .inr .dup, .inr (.invokeinterface 5 8), .inr (.lload_n 1), .inl (.long (-1)), .inr .lxor, .inr .land, .inr (.multianewarray 5 8), .inl (.int 0), .inr (.istore 8), .inl (.long 0), .inr (.lstore 9), .inr (.lload_n 1), .inr (.lstore 11), .inr (.lload_n 1), .inr (.lstore 13), .inl (.int 1), .inr (.istore 15), .inr (.lload_n 1), .inr (.lstore 16)], .inr (.inr (0, 13, 1))),
  (114, [.inr (.iload 15)], .inl (.eq, false, 24, 14)),
  (119, [.inr (.aload_n 0), .inr (.lload 6), .inr (.lload 16), .inr .lor, .inr (.multianewarray 5 7), .inr (.aload_n 0)], .inr (.inr (1, 60, 15))),
  (132, [.inr (.istore 18), .inr (.iload_n 3)], .inl (.lt, false, 17, 16)),
  (138, [.inr (.aload_n 0), .inr (.invokeinterface 5 10), .inr (.iload_n 3)], .inl (.ne, true, 20, 17)),
  (146, [.inr (.iload 4)], .inl (.lt, false, 19, 18)),
  (151, [.inr (.iload 18), .inr (.iload 4)], .inl (.ne, true, 20, 19)),
  (158, [.inr (.iinc 8 1), .inr (.lload 16), .inr (.lstore 9), .inr (.lload 11), .inr (.lload 16), .inr .land, .inr (.lstore 11), .inr (.lload 13), .inr (.lload 16), .inl (.long (-1)), .inr .lxor, .inr .land, .inr (.lstore 13)], .inr (.inr (0, 20, 1))),
  (183, [.inr (.lload 16), .inl (.long 0), .inr .lcmp], .inl (.eq, false, 22, 21)),
  (190, [.inl (.int 1)], .inr (.inr (0, 23, 0))),
  (194, [.inl (.int 0)], .inr (.inr (0, 23, 1))),
  (195, [.inr (.istore 15), .inr (.lload 16), .inl (.long 1), .inr .lsub, .inr (.lload_n 1), .inr .land, .inr (.lstore 16)], .inr (.inr (0, 13, 0))),
  (208, [.inr (.iload 5)], .inl (.ne, false, 26, 25)),
  (213, [.inr (.iload 8), .inr .i2l], .inr (.inr (0, 33, 0))),
  (219, [.inr (.iload 8)], .inl (.ne, false, 28, 27)),
  (224, [.inl (.long (-4))], .inr (.inr (0, 33, 0))),
  (230, [.inr (.iload 5), .inl (.int 1)], .inl (.ne, true, 30, 29)),
  (236, [.inr (.lload 9)], .inr (.inr (0, 33, 0))),
  (241, [.inr (.iload 5), .inl (.int 2)], .inl (.ne, true, 32, 31)),
  (247, [.inr (.lload 11)], .inr (.inr (0, 33, 0))),
  (252, [.inr (.lload 13)], .inr (.inr (0, 33, 1))),
  (254, [], .inr (.inr (2, 2, 0)))]
def zp_N_nextDraw : List zB := [(0, [.inr (.aload_n 0), .inr (.aload_n 0), .inr (.invokeinterface 5 6), .inr .i2l, .inl (.long 1103515245), .inr .lmul, .inl (.long 12345), .inr .ladd, .inl (.long 2147483647), .inr .land, .inr .l2i, .inr (.multianewarray 5 6), .inr (.aload_n 0), .inr (.invokeinterface 5 6), .inl (.int 65536), .inr .idiv, .inr (.iload_n 1), .inr .irem], .inr (.inr (2, 1, 0)))]
def zp_N_lots : List zB := [(0, [.inr (.iload_n 1), .inr .i2l, .inl (.long 1), .inl (.long 99)], .inr (.inr (1, 44, 1))),
  (9, [], .inl (.ne, false, 3, 2)),
  (12, [.inl (.int (-1))], .inr (.inr (2, 1, 0))),
  (14, [.inl (.int 0), .inr (.istore_n 2), .inl (.int 0), .inr (.istore_n 3)], .inr (.inr (0, 4, 1))),
  (18, [.inr (.iload_n 3), .inr (.iload_n 1)], .inl (.ge, true, 18, 5)),
  (23, [.inr (.aload_n 0), .inl (.int 36)], .inr (.inr (1, 109, 6))),
  (29, [.inr (.istore 4), .inr (.aload_n 0), .inl (.int 4)], .inr (.inr (1, 109, 7))),
  (36, [], .inl (.ne, false, 9, 8)),
  (39, [.inl (.int 1)], .inr (.inr (0, 10, 0))),
  (43, [.inl (.int 0)], .inr (.inr (0, 10, 1))),
  (44, [.inr (.istore 5), .inr (.iload 5)], .inl (.eq, false, 14, 11)),
  (51, [.inr (.aload_n 0), .inr (.invokeinterface 5 0), .inr (.iload 4), .inr .iaload], .inl (.le, false, 14, 12)),
  (61, [.inr (.aload_n 0), .inr (.iload 4), .inl (.int 0), .inl (.int 0)], .inr (.inr (1, 62, 13))),
  (69, [.inr (.iinc 2 100)], .inr (.inr (0, 14, 1))),
  (72, [.inr (.iload 5)], .inl (.ne, false, 17, 15)),
  (77, [.inr (.aload_n 0), .inr (.invokeinterface 5 0), .inr (.iload 4), .inr .iaload, .inl (.int 9)], .inl (.ge, true, 17, 16)),
  (89, [.inr (.aload_n 0), .inr (.invokeinterface 5 0), .inr (.iload 4), .inr .dup2, .inr .iaload, .inl (.int 1), .inr .iadd, .inr .iastore, .inr (.iinc 2 1)], .inr (.inr (0, 17, 1))),
  (103, [.inr (.iinc 3 1)], .inr (.inr (0, 4, 0))),
  (109, [.inr (.aload_n 0), .inl (.int 0), .inr (.multianewarray 5 5), .inr (.iload_n 2)], .inr (.inr (2, 1, 0)))]
def zp_N_seed : List zB := [(0, [.inr (.iload_n 1)], .inl (.ge, false, 2, 1)),
  (4, [.inl (.int (-1))], .inr (.inr (2, 1, 0))),
  (6, [.inr (.aload_n 0), .inr (.invokeinterface 5 6), .inr (.istore_n 2), .inr (.aload_n 0), .inr (.iload_n 1), .inr (.multianewarray 5 6), .inr (.iload_n 2)], .inr (.inr (2, 1, 0)))]
def zp_N_carried : List zB := [(0, [.inr (.iload_n 1), .inl (.int 72)], .inl (.ge, true, 13, 1)),
  (6, [.inr (.iload_n 1), .inl (.int 36), .inr .irem, .inr (.istore 4), .inr (.aload_n 0), .inr (.invokeinterface 5 0), .inr (.iload 4), .inr (.iload_n 3)], .inl (.eq, false, 4, 2)),
  (22, [.inr (.iload_n 1), .inl (.int 36)], .inl (.ge, true, 4, 3)),
  (28, [.inr (.iload_n 2)], .inr (.inr (0, 5, 0))),
  (32, [.inr (.aload_n 0), .inr (.invokeinterface 5 0), .inr (.iload 4), .inr .iaload], .inr (.inr (0, 5, 1))),
  (39, [.inr .iastore, .inr (.aload_n 0), .inr (.invokeinterface 5 1), .inr (.iload 4), .inr (.iload_n 3)], .inl (.eq, false, 8, 6)),
  (50, [.inr (.iload_n 1), .inl (.int 36)], .inl (.lt, true, 8, 7)),
  (56, [.inr (.iload_n 2)], .inr (.inr (0, 9, 0))),
  (60, [.inr (.aload_n 0), .inr (.invokeinterface 5 1), .inr (.iload 4), .inr .iaload], .inr (.inr (0, 9, 1))),
  (67, [.inr .iastore, .inr (.iload_n 1), .inl (.int 36)], .inl (.ge, true, 11, 10)),
  (74, [.inr (.aload_n 0), .inr (.invokeinterface 5 0), .inr (.iload 4), .inr .iaload], .inr (.inr (0, 12, 0))),
  (84, [.inr (.aload_n 0), .inr (.invokeinterface 5 1), .inr (.iload 4), .inr .iaload], .inr (.inr (0, 12, 1))),
  (91, [], .inr (.inr (2, 1, 0))),
  (92, [.inr (.iload_n 1), .inl (.int 102)], .inl (.ge, true, 18, 14)),
  (98, [.inr (.aload_n 0), .inr (.invokeinterface 5 4), .inr (.iload_n 1), .inl (.int 72), .inr .isub, .inr (.iload_n 3)], .inl (.eq, false, 16, 15)),
  (110, [.inr (.iload_n 2)], .inr (.inr (0, 17, 0))),
  (114, [.inr (.aload_n 0), .inr (.invokeinterface 5 4), .inr (.iload_n 1), .inl (.int 72), .inr .isub, .inr .iaload], .inr (.inr (0, 17, 1))),
  (123, [.inr .iastore, .inr (.aload_n 0), .inr (.invokeinterface 5 4), .inr (.iload_n 1), .inl (.int 72), .inr .isub, .inr .iaload], .inr (.inr (2, 1, 0))),
  (134, [.inr (.aload_n 0), .inr (.iload_n 3)], .inl (.eq, false, 21, 19)),
  (139, [.inr (.iload_n 1), .inl (.int 102)], .inl (.ne, true, 21, 20)),
  (145, [.inr (.iload_n 2)], .inr (.inr (0, 22, 0))),
  (149, [.inr (.aload_n 0), .inr (.invokeinterface 5 3)], .inr (.inr (0, 22, 1))),
  (153, [.inr (.multianewarray 5 3), .inr (.aload_n 0), .inr (.iload_n 3)], .inl (.eq, false, 25, 23)),
  (161, [.inr (.iload_n 1), .inl (.int 103)], .inl (.ne, true, 25, 24)),
  (167, [.inr (.iload_n 2)], .inr (.inr (0, 26, 0))),
  (171, [.inr (.aload_n 0), .inr (.invokeinterface 5 5)], .inr (.inr (0, 26, 1))),
  (175, [.inr (.multianewarray 5 5), .inr (.aload_n 0), .inr (.iload_n 3)], .inl (.eq, false, 29, 27)),
  (183, [.inr (.iload_n 1), .inl (.int 104)], .inl (.ne, true, 29, 28)),
  (189, [.inr (.iload_n 2)], .inr (.inr (0, 30, 0))),
  (193, [.inr (.aload_n 0), .inr (.invokeinterface 5 6)], .inr (.inr (0, 30, 1))),
  (197, [.inr (.multianewarray 5 6), .inr (.iload_n 1), .inl (.int 102)], .inl (.ne, true, 32, 31)),
  (206, [.inr (.aload_n 0), .inr (.invokeinterface 5 3)], .inr (.inr (0, 35, 0))),
  (213, [.inr (.iload_n 1), .inl (.int 103)], .inl (.ne, true, 34, 33)),
  (219, [.inr (.aload_n 0), .inr (.invokeinterface 5 5)], .inr (.inr (0, 35, 0))),
  (226, [.inr (.aload_n 0), .inr (.invokeinterface 5 6)], .inr (.inr (0, 35, 1))),
  (230, [], .inr (.inr (2, 1, 0)))]
def zp_N_image : List zB := [(0, [.inl (.int 0), .inr (.istore_n 1)], .inr (.inr (0, 1, 1))),
  (2, [.inr (.iload_n 1), .inl (.int 105)], .inl (.ge, true, 4, 2)),
  (8, [.inr (.aload_n 0), .inr (.invokeinterface 5 22), .inr (.iload_n 1), .inr (.aload_n 0), .inr (.iload_n 1), .inl (.int 0), .inl (.int 0)], .inr (.inr (1, 112, 3))),
  (20, [.inr .iastore, .inr (.iinc 1 1)], .inr (.inr (0, 1, 0))),
  (27, [.inr (.aload_n 0), .inr (.aload_n 0), .inr (.invokeinterface 5 2), .inr (.multianewarray 5 21), .inr (.aload_n 0), .inl (.int 1), .inr (.multianewarray 5 20), .inl (.int 1)], .inr (.inr (2, 1, 0)))]
def zp_N_restore : List zB := [(0, [.inr (.aload_n 0), .inr (.invokeinterface 5 20)], .inl (.ne, false, 2, 1)),
  (7, [.inl (.int (-4))], .inr (.inr (2, 1, 0))),
  (10, [.inl (.int 0), .inr (.istore_n 1)], .inr (.inr (0, 3, 1))),
  (12, [.inr (.iload_n 1), .inl (.int 105)], .inl (.ge, true, 6, 4)),
  (18, [.inr (.aload_n 0), .inr (.iload_n 1), .inr (.aload_n 0), .inr (.invokeinterface 5 22), .inr (.iload_n 1), .inr .iaload, .inl (.int 1)], .inr (.inr (1, 112, 5))),
  (30, [.inr .pop, .inr (.iinc 1 1)], .inr (.inr (0, 3, 0))),
  (37, [.inr (.aload_n 0), .inr (.aload_n 0), .inr (.invokeinterface 5 21), .inr (.multianewarray 5 2), .inl (.int 1)], .inr (.inr (2, 1, 0)))]
def zp_N_isSheet : List zB := [(0, [.inr (.iload_n 0), .inr .i2l, .inl (.long 0), .inl (.long 3)], .inr (.inr (1, 44, 1))),
  (9, [], .inl (.eq, false, 5, 2)),
  (12, [.inr (.iload_n 1), .inr .i2l, .inl (.long 0), .inl (.long 3)], .inr (.inr (1, 44, 3))),
  (21, [], .inl (.eq, false, 5, 4)),
  (24, [.inl (.int 1)], .inr (.inr (0, 6, 0))),
  (28, [.inl (.int 0)], .inr (.inr (0, 6, 1))),
  (29, [], .inr (.inr (2, 3, 0)))]
def zp_N_asLane : List zB := [(0, [.inr (.iload_n 0)], .inl (.ne, false, 2, 1)),
  (4, [.inr (.lload_n 1), .inl (.int 56), .inr .lshl, .inl (.int 56), .inr .lshr], .inr (.inr (0, 7, 0))),
  (14, [.inr (.iload_n 0), .inl (.int 1)], .inl (.ne, true, 4, 3)),
  (19, [.inr (.lload_n 1), .inl (.int 48), .inr .lshl, .inl (.int 48), .inr .lshr], .inr (.inr (0, 7, 0))),
  (29, [.inr (.iload_n 0), .inl (.int 2)], .inl (.ne, true, 6, 5)),
  (34, [.inr (.lload_n 1), .inl (.int 32), .inr .lshl, .inl (.int 32), .inr .lshr], .inr (.inr (0, 7, 0))),
  (44, [.inr (.lload_n 1)], .inr (.inr (0, 7, 1))),
  (45, [], .inr (.inr (2, 2, 0)))]
def zp_N_sheet : List zB := [(0, [.inr (.iload_n 1), .inr (.iload_n 2)], .inr (.inr (1, 115, 1))),
  (5, [], .inl (.eq, false, 3, 2)),
  (8, [.inr (.iload_n 3), .inl (.int 36)], .inl (.le, true, 4, 3)),
  (14, [.inl (.int (-1))], .inr (.inr (2, 1, 0))),
  (16, [.inr (.iload_n 3)], .inl (.ge, false, 6, 5)),
  (20, [.inl (.int (-14))], .inr (.inr (2, 1, 0))),
  (23, [.inr (.aload_n 0), .inr (.invokeinterface 5 23), .inr (.iload_n 1), .inr (.iload_n 2), .inr .iastore, .inr (.aload_n 0), .inr (.invokeinterface 5 24), .inr (.iload_n 1), .inr (.iload_n 3), .inr .iastore, .inl (.int 0), .inr (.istore 4)], .inr (.inr (0, 7, 1))),
  (40, [.inr (.iload 4), .inl (.int 36)], .inl (.ge, true, 9, 8)),
  (47, [.inr (.aload_n 0), .inr (.invokeinterface 5 25), .inl (.int 36), .inr (.iload_n 1), .inr .imul, .inr (.iload 4), .inr .iadd, .inl (.long 0), .inr .lastore, .inr (.iinc 4 1)], .inr (.inr (0, 7, 0))),
  (66, [.inr (.iload_n 3)], .inr (.inr (2, 1, 0)))]
def zp_N_drop : List zB := [(0, [.inr (.iload_n 1), .inr .i2l, .inl (.long 0), .inl (.long 3)], .inr (.inr (1, 44, 1))),
  (9, [], .inl (.ne, false, 3, 2)),
  (12, [.inl (.int (-1))], .inr (.inr (2, 1, 0))),
  (14, [.inr (.aload_n 0), .inr (.invokeinterface 5 23), .inr (.iload_n 1), .inr .iaload], .inl (.ge, false, 5, 4)),
  (23, [.inl (.int (-11))], .inr (.inr (2, 1, 0))),
  (26, [.inr (.aload_n 0), .inr (.invokeinterface 5 23), .inr (.iload_n 1), .inl (.int (-1)), .inr .iastore, .inr (.aload_n 0), .inr (.invokeinterface 5 24), .inr (.iload_n 1), .inr .iaload], .inr (.inr (2, 1, 0)))]
def zp_N_lacksRow : List zB := [(0, [.inr (.aload_n 0), .inr (.invokeinterface 5 23), .inr (.iload_n 1), .inr .iaload, .inr (.iload_n 2)], .inl (.eq, true, 5, 1)),
  (10, [.inr (.aload_n 0), .inr (.invokeinterface 5 23), .inr (.iload_n 1), .inr .iaload], .inl (.ge, false, 3, 2)),
  (19, [.inl (.int (-11))], .inr (.inr (0, 4, 0))),
  (24, [.inl (.int (-12))], .inr (.inr (0, 4, 1))),
  (26, [], .inr (.inr (2, 1, 0))),
  (27, [.inr (.iload_n 3), .inr .i2l, .inl (.long 0), .inr (.aload_n 0), .inr (.invokeinterface 5 24), .inr (.iload_n 1), .inr .iaload, .inr (.iload 4), .inr .isub, .inr .i2l], .inr (.inr (1, 44, 6))),
  (43, [], .inl (.eq, false, 8, 7)),
  (46, [.inl (.int 0)], .inr (.inr (0, 9, 0))),
  (50, [.inl (.int (-13))], .inr (.inr (0, 9, 1))),
  (52, [], .inr (.inr (2, 1, 0)))]
def zp_N_item : List zB := [(0, [.inr (.iload_n 1), .inr (.iload_n 2)], .inr (.inr (1, 115, 1))),
  (5, [], .inl (.ne, false, 3, 2)),
  (8, [.inl (.int (-1))], .inr (.inr (2, 1, 0))),
  (10, [.inr (.aload_n 0), .inr (.iload_n 1), .inr (.iload_n 2), .inr (.iload_n 3), .inl (.int 1)], .inr (.inr (1, 119, 4))),
  (18, [.inr (.istore 6), .inr (.iload 6)], .inl (.ge, false, 6, 5)),
  (25, [.inr (.iload 6)], .inr (.inr (2, 1, 0))),
  (28, [.inr (.aload_n 0), .inr (.invokeinterface 5 25), .inl (.int 36), .inr (.iload_n 1), .inr .imul, .inr (.iload_n 3), .inr .iadd, .inr (.iload_n 2), .inr (.lload 4)], .inr (.inr (1, 116, 7))),
  (44, [.inr .lastore, .inl (.int 1)], .inr (.inr (2, 1, 0)))]
def zp_N_lay : List zB := [(0, [.inr (.iload_n 1)], .inr (.inr (1, 45, 1))),
  (4, [], .inl (.eq, false, 6, 2)),
  (7, [.inr (.iload_n 2), .inr (.iload_n 3)], .inr (.inr (1, 115, 3))),
  (12, [], .inl (.eq, false, 6, 4)),
  (15, [.inr (.iload 5), .inr .i2l, .inl (.long 1), .inl (.int 36), .inr (.iload_n 1), .inr .isub, .inr .i2l], .inr (.inr (1, 44, 5))),
  (27, [], .inl (.ne, false, 7, 6)),
  (30, [.inl (.int (-1))], .inr (.inr (2, 1, 0))),
  (32, [.inr (.aload_n 0), .inr (.iload_n 2), .inr (.iload_n 3), .inr (.iload 4), .inr (.iload 5)], .inr (.inr (1, 119, 8))),
  (42, [.inr (.istore 6), .inl (.int 36), .inr (.iload_n 2), .inr .imul, .inr (.iload 4), .inr .iadd, .inr (.istore 7), .inl (.int 0), .inr (.istore 8)], .inr (.inr (0, 9, 1))),
  (56, [.inr (.iload 8), .inr (.iload 5)], .inl (.ge, true, 16, 10)),
  (63, [.inr (.iload 6)], .inl (.ne, false, 16, 11)),
  (68, [.inr (.aload_n 0), .inr (.invokeinterface 5 25), .inr (.iload 7), .inr (.iload 8), .inr .iadd, .inr .laload, .inl (.long 0), .inl (.long 9)], .inr (.inr (1, 44, 12))),
  (85, [], .inl (.eq, false, 14, 13)),
  (88, [.inl (.int 0)], .inr (.inr (0, 15, 0))),
  (92, [.inl (.int (-2))], .inr (.inr (0, 15, 1))),
  (94, [.inr (.istore 6), .inr (.iinc 8 1)], .inr (.inr (0, 9, 0))),
  (102, [.inr (.iload 6)], .inl (.ge, false, 18, 17)),
  (107, [.inr (.iload 6)], .inr (.inr (2, 1, 0))),
  (110, [.inl (.int 0), .inr (.istore 8)], .inr (.inr (0, 19, 1))),
  (113, [.inr (.iload 8), .inr (.iload 5)], .inl (.ge, true, 27, 20)),
  (120, [.inr (.aload_n 0), .inr (.invokeinterface 5 25), .inr (.iload 7), .inr (.iload 8), .inr .iadd, .inr .laload, .inr .l2i, .inr (.istore 9), .inr (.aload_n 0), .inr (.iload_n 1), .inr (.iload 8), .inr .iadd, .inr (.iload 9), .inr (.iload 9)], .inl (.le, false, 24, 21)),
  (145, [.inr (.aload_n 0), .inr (.invokeinterface 5 2), .inr (.iload_n 1), .inr (.iload 8), .inr .iadd], .inr (.inr (1, 46, 22))),
  (156, [], .inl (.eq, false, 24, 23)),
  (159, [.inl (.int 1)], .inr (.inr (0, 25, 0))),
  (163, [.inl (.int 0)], .inr (.inr (0, 25, 1))),
  (164, [], .inr (.inr (1, 62, 26))),
  (167, [.inr (.iinc 8 1)], .inr (.inr (0, 19, 0))),
  (173, [.inr (.aload_n 0), .inl (.int 0), .inr (.multianewarray 5 5), .inr (.iload 5)], .inr (.inr (2, 1, 0)))]
def zp_N_film : List zB := [(0, [.inr (.iload_n 1), .inr (.iload_n 2)], .inr (.inr (1, 115, 1))),
  (5, [], .inl (.ne, false, 3, 2)),
  (8, [.inl (.int (-1))], .inr (.inr (2, 1, 0))),
  (10, [.inr (.aload_n 0)], .inr (.inr (1, 49, 4))),
  (14, [.inr (.aload_n 0)], .inr (.inr (1, 59, 5))),
  (18, [.inr (.aload_n 0), .inr (.iload_n 1), .inr (.iload_n 2), .inr (.iload_n 3), .inr (.aload_n 0), .inr (.invokeinterface 5 10)], .inr (.inr (1, 119, 6))),
  (29, [.inr (.istore 4), .inr (.iload 4)], .inl (.ge, false, 8, 7)),
  (36, [.inr (.iload 4)], .inr (.inr (2, 1, 0))),
  (39, [.inl (.int 0), .inr (.istore 5)], .inr (.inr (0, 9, 1))),
  (42, [.inr (.iload 5), .inr (.aload_n 0), .inr (.invokeinterface 5 10)], .inl (.ge, true, 13, 10)),
  (51, [.inr (.aload_n 0), .inr (.invokeinterface 5 25), .inl (.int 36), .inr (.iload_n 1), .inr .imul, .inr (.iload_n 3), .inr .iadd, .inr (.iload 5), .inr .iadd, .inr (.iload_n 2), .inr (.aload_n 0), .inr (.aload_n 0), .inr (.invokeinterface 5 9), .inr (.iload 5), .inr .laload], .inr (.inr (1, 58, 11))),
  (76, [.inr .i2l], .inr (.inr (1, 116, 12))),
  (80, [.inr .lastore, .inr (.iinc 5 1)], .inr (.inr (0, 9, 0))),
  (87, [.inr (.aload_n 0), .inr (.invokeinterface 5 10)], .inr (.inr (2, 1, 0)))]
def zp_N_miscounted : List zB := [(0, [.inr (.iload_n 1), .inr (.iload_n 2)], .inr (.inr (1, 115, 1))),
  (5, [], .inl (.eq, false, 4, 2)),
  (8, [.inr (.iload 4), .inr .i2l, .inl (.long 1), .inl (.long 12)], .inr (.inr (1, 44, 3))),
  (18, [], .inl (.ne, false, 5, 4)),
  (21, [.inl (.int (-1))], .inr (.inr (2, 1, 0))),
  (23, [.inr (.aload_n 0), .inr (.iload_n 1), .inr (.iload_n 2), .inr (.iload_n 3), .inl (.int 2), .inr (.iload 4), .inr .imul], .inr (.inr (1, 119, 6))),
  (34, [.inr (.istore 5), .inr (.iload 5)], .inl (.ge, false, 8, 7)),
  (41, [.inr (.iload 5)], .inr (.inr (2, 1, 0))),
  (44, [.inr (.aload_n 0)], .inr (.inr (1, 49, 9))),
  (48, [.inl (.int 0), .inr (.istore 6)], .inr (.inr (0, 10, 1))),
  (51, [.inr (.iload 6), .inr (.iload 4)], .inl (.ge, true, 23, 11)),
  (58, [.inr (.aload_n 0), .inr (.invokeinterface 5 25), .inl (.int 36), .inr (.iload_n 1), .inr .imul, .inr (.iload_n 3), .inr .iadd, .inl (.int 2), .inr (.iload 6), .inr .imul, .inr .iadd, .inr .laload, .inr (.lstore 7), .inr (.aload_n 0), .inr (.invokeinterface 5 25), .inl (.int 36), .inr (.iload_n 1), .inr .imul, .inr (.iload_n 3), .inr .iadd, .inl (.int 2), .inr (.iload 6), .inr .imul, .inr .iadd, .inl (.int 1), .inr .iadd, .inr .laload, .inr (.lstore 9), .inr (.lload 7), .inl (.long 0), .inl (.long 35)], .inr (.inr (1, 44, 12))),
  (105, [], .inl (.eq, false, 19, 13)),
  (108, [.inr (.aload_n 0), .inr (.invokeinterface 5 7), .inr (.lload 7), .inr .l2i], .inr (.inr (1, 46, 14))),
  (118, [], .inl (.eq, false, 19, 15)),
  (121, [.inr (.aload_n 0), .inr (.lload 7), .inr .l2i], .inr (.inr (1, 52, 16))),
  (128, [], .inr (.inr (1, 47, 17))),
  (131, [.inr .i2l, .inr (.lload 9), .inr .lcmp], .inl (.ne, false, 19, 18)),
  (138, [.inl (.int 1)], .inr (.inr (0, 20, 0))),
  (142, [.inl (.int 0)], .inr (.inr (0, 20, 1))),
  (143, [.inr (.istore 11), .inr (.iload 11)], .inl (.ne, false, 22, 21)),
  (150, [.inr (.iload 6)], .inr (.inr (2, 1, 0))),
  (153, [.inr (.iinc 6 1)], .inr (.inr (0, 10, 0))),
  (159, [.inl (.int (-4))], .inr (.inr (2, 1, 0)))]
def zp_N_copy : List zB := [(0, [.inr (.iload_n 1), .inr .i2l, .inl (.long 0), .inl (.long 3)], .inr (.inr (1, 44, 1))),
  (9, [], .inl (.eq, false, 4, 2)),
  (12, [.inr (.iload_n 3), .inr .i2l, .inl (.long 0), .inl (.long 3)], .inr (.inr (1, 44, 3))),
  (21, [], .inl (.ne, false, 5, 4)),
  (24, [.inl (.int (-1))], .inr (.inr (2, 1, 0))),
  (26, [.inr (.aload_n 0), .inr (.invokeinterface 5 23), .inr (.iload_n 1), .inr .iaload], .inl (.lt, false, 7, 6)),
  (35, [.inr (.aload_n 0), .inr (.invokeinterface 5 23), .inr (.iload_n 3), .inr .iaload], .inl (.ge, false, 8, 7)),
  (44, [.inl (.int (-11))], .inr (.inr (2, 1, 0))),
  (47, [.inr (.aload_n 0), .inr (.invokeinterface 5 23), .inr (.iload_n 1), .inr .iaload, .inr (.aload_n 0), .inr (.invokeinterface 5 23), .inr (.iload_n 3), .inr .iaload], .inl (.eq, true, 10, 9)),
  (62, [.inl (.int (-12))], .inr (.inr (2, 1, 0))),
  (65, [.inr (.iload 5)], .inl (.lt, false, 15, 11)),
  (70, [.inr (.iload_n 2), .inr .i2l, .inl (.long 0), .inr (.aload_n 0), .inr (.invokeinterface 5 24), .inr (.iload_n 1), .inr .iaload, .inr .i2l, .inr (.iload 5), .inr .i2l, .inr .lsub], .inr (.inr (1, 44, 12))),
  (87, [], .inl (.eq, false, 15, 13)),
  (90, [.inr (.iload 4), .inr .i2l, .inl (.long 0), .inr (.aload_n 0), .inr (.invokeinterface 5 24), .inr (.iload_n 3), .inr .iaload, .inr .i2l, .inr (.iload 5), .inr .i2l, .inr .lsub], .inr (.inr (1, 44, 14))),
  (108, [], .inl (.ne, false, 16, 15)),
  (111, [.inl (.int (-13))], .inr (.inr (2, 1, 0))),
  (114, [.inl (.int 0), .inr (.istore 6)], .inr (.inr (0, 17, 1))),
  (117, [.inr (.iload 6), .inr (.iload 5)], .inl (.ge, true, 19, 18)),
  (124, [.inr (.aload_n 0), .inr (.invokeinterface 5 26), .inr (.iload 6), .inr (.aload_n 0), .inr (.invokeinterface 5 25), .inl (.int 36), .inr (.iload_n 1), .inr .imul, .inr (.iload_n 2), .inr .iadd, .inr (.iload 6), .inr .iadd, .inr .laload, .inr .lastore, .inr (.iinc 6 1)], .inr (.inr (0, 17, 0))),
  (151, [.inl (.int 0), .inr (.istore 6)], .inr (.inr (0, 20, 1))),
  (154, [.inr (.iload 6), .inr (.iload 5)], .inl (.ge, true, 22, 21)),
  (161, [.inr (.aload_n 0), .inr (.invokeinterface 5 25), .inl (.int 36), .inr (.iload_n 3), .inr .imul, .inr (.iload 4), .inr .iadd, .inr (.iload 6), .inr .iadd, .inr (.aload_n 0), .inr (.invokeinterface 5 26), .inr (.iload 6), .inr .laload, .inr .lastore, .inr (.iinc 6 1)], .inr (.inr (0, 20, 0))),
  (189, [.inr (.iload 5)], .inr (.inr (2, 1, 0)))]
def zp_G_takeAll : List zB := [(0, [.inr (.aload_n 1), .inr (.invokeinterface 0 0), .inl (.int 0), .inr (.aload_n 0), .inr (.invokeinterface 0 0), .inl (.int 0), .inl (.int 36)], .inr (.inr (3, 0, 1))),
  (15, [.inr (.aload_n 1), .inr (.invokeinterface 0 1), .inl (.int 0), .inr (.aload_n 0), .inr (.invokeinterface 0 1), .inl (.int 0), .inl (.int 36)], .inr (.inr (3, 0, 2))),
  (30, [.inr (.aload_n 0), .inr (.aload_n 1), .inr (.invokeinterface 0 2), .inr (.multianewarray 0 2), .inr (.aload_n 0), .inr (.aload_n 1), .inr (.invokeinterface 0 3), .inr (.multianewarray 0 3), .inr (.aload_n 0), .inr (.aload_n 1), .inr (.invokeinterface 0 4), .inr (.multianewarray 0 4), .inr (.aload_n 0), .inr (.aload_n 1), .inr (.invokeinterface 0 5), .inr (.multianewarray 0 5), .inr (.aload_n 0), .inr (.aload_n 1), .inr (.invokeinterface 0 6), .inr (.multianewarray 0 6), .inr (.aload_n 1), .inr (.invokeinterface 0 7), .inl (.int 0), .inr (.aload_n 0), .inr (.invokeinterface 0 7), .inl (.int 0), .inl (.int 10)], .inr (.inr (3, 0, 3))),
  (85, [.inr (.aload_n 0), .inr (.aload_n 1), .inr (.invokeinterface 0 8), .inr (.multianewarray 0 8)], .inr (.inr (2, 0, 0)))]
def zp_G_put : List zB := [(0, [.inl (.long 1), .inr (.iload_n 1), .inr .lshl, .inr (.lstore_n 3), .inr (.aload_n 0), .inr (.invokeinterface 0 0), .inr (.iload_n 1), .inr (.iload_n 2), .inr .iastore, .inr (.aload_n 0), .inr (.iload_n 2)], .inl (.le, false, 2, 1)),
  (16, [.inr (.aload_n 0), .inr (.invokeinterface 0 2), .inr (.lload_n 3), .inr .lor], .inr (.inr (0, 3, 0))),
  (25, [.inr (.aload_n 0), .inr (.invokeinterface 0 2), .inr (.lload_n 3), .inl (.long (-1)), .inr .lxor, .inr .land], .inr (.inr (0, 3, 1))),
  (35, [.inr (.multianewarray 0 2), .inr (.aload_n 0), .inr (.iload_n 2), .inl (.int 9)], .inl (.ne, true, 5, 4)),
  (45, [.inr (.aload_n 0), .inr (.invokeinterface 0 3), .inr (.lload_n 3), .inr .lor], .inr (.inr (0, 6, 0))),
  (54, [.inr (.aload_n 0), .inr (.invokeinterface 0 3), .inr (.lload_n 3), .inl (.long (-1)), .inr .lxor, .inr .land], .inr (.inr (0, 6, 1))),
  (64, [.inr (.multianewarray 0 3), .inr (.aload_n 0), .inr (.iload_n 2)], .inl (.le, false, 8, 7)),
  (72, [.inr (.aload_n 0), .inr (.invokeinterface 0 4)], .inr (.inr (0, 9, 0))),
  (79, [.inr (.aload_n 0), .inr (.invokeinterface 0 4), .inr (.lload_n 3), .inl (.long (-1)), .inr .lxor, .inr .land], .inr (.inr (0, 9, 1))),
  (89, [.inr (.multianewarray 0 4)], .inr (.inr (2, 0, 0)))]
def zp_G_become : List zB := [(0, [.inl (.int 0), .inr (.istore 4)], .inr (.inr (0, 1, 1))),
  (3, [.inr (.iload 4), .inl (.int 36)], .inl (.ge, true, 5, 2)),
  (10, [.inr (.iload 4), .inr (.aload_n 1), .inr .arraylength], .inl (.ge, true, 5, 3)),
  (17, [.inr (.aload_n 0), .inr (.iload 4), .inr (.aload_n 1), .inr (.iload 4), .inr .iaload], .inr (.inr (1, 126, 4))),
  (27, [.inr (.iinc 4 1)], .inr (.inr (0, 1, 0))),
  (33, [.inr (.aload_n 0), .inr (.lload_n 2), .inr (.multianewarray 0 4), .inr (.aload_n 0)], .inr (.inr (1, 133, 6))),
  (42, [], .inr (.inr (2, 0, 0)))]
def zp_G_toDig : List zB := [(0, [.inr (.aload_n 0), .inr (.invokeinterface 0 0), .inr (.iload_n 1), .inr .iaload, .inl (.int 9)], .inl (.lt, true, 2, 1)),
  (11, [.inl (.int (-3))], .inr (.inr (2, 1, 0))),
  (14, [.inr (.aload_n 0), .inr (.iload_n 1)], .inr (.inr (1, 132, 3))),
  (19, [.inr (.aload_n 0), .inr (.iload_n 1), .inr (.aload_n 0), .inr (.invokeinterface 0 0), .inr (.iload_n 1), .inr .iaload, .inl (.int 1), .inr .iadd], .inr (.inr (1, 126, 4))),
  (32, [.inr (.aload_n 0), .inr (.invokeinterface 0 0), .inr (.iload_n 1), .inr .iaload], .inr (.inr (2, 1, 0)))]
def zp_G_toFill : List zB := [(0, [.inr (.aload_n 0), .inr (.invokeinterface 0 0), .inr (.iload_n 1), .inr .iaload, .inr (.istore_n 2), .inr (.iload_n 2)], .inl (.ne, false, 2, 1)),
  (11, [.inl (.int (-2))], .inr (.inr (2, 1, 0))),
  (14, [.inr (.aload_n 0), .inr (.iload_n 1)], .inr (.inr (1, 132, 3))),
  (19, [.inr (.aload_n 0), .inr (.iload_n 1), .inl (.int 0)], .inr (.inr (1, 126, 4))),
  (25, [.inr (.iload_n 2)], .inr (.inr (2, 1, 0)))]
def zp_G_toRoof : List zB := [(0, [.inr (.aload_n 0), .inr (.invokeinterface 0 0), .inr (.iload_n 1), .inr .iaload], .inl (.ne, false, 2, 1)),
  (9, [.inl (.int (-2))], .inr (.inr (2, 1, 0))),
  (12, [.inr (.aload_n 0), .inr (.iload_n 1)], .inr (.inr (1, 132, 3))),
  (17, [.inr (.aload_n 0), .inr .dup, .inr (.invokeinterface 0 4), .inl (.long 1), .inr (.iload_n 1), .inr .lshl, .inr .lxor, .inr (.multianewarray 0 4), .inr (.aload_n 0), .inr (.invokeinterface 0 4), .inr (.iload_n 1)], .inr (.inr (1, 153, 4))),
  (37, [], .inl (.eq, false, 6, 5)),
  (40, [.inl (.int 1)], .inr (.inr (0, 7, 0))),
  (44, [.inl (.int 0)], .inr (.inr (0, 7, 1))),
  (45, [], .inr (.inr (2, 1, 0)))]
def zp_G_repaired : List zB := [(0, [.inr (.iload_n 1), .inl (.int 36), .inr .irem, .inr (.istore_n 2), .inr (.iload_n 1), .inl (.int 36), .inr .idiv], .inr (.inl ([(0, 1), (1, 6)], 11))),
  (36, [.inr (.aload_n 0), .inr (.iload_n 2)], .inr (.inr (1, 128, 2))),
  (41, [], .inl (.lt, false, 4, 3)),
  (44, [.inl (.int 1)], .inr (.inr (0, 5, 0))),
  (48, [.inl (.int 0)], .inr (.inr (0, 5, 1))),
  (49, [], .inr (.inr (2, 3, 0))),
  (50, [.inr (.aload_n 0), .inr (.iload_n 2)], .inr (.inr (1, 129, 7))),
  (55, [], .inl (.lt, false, 9, 8)),
  (58, [.inl (.int 1)], .inr (.inr (0, 10, 0))),
  (62, [.inl (.int 0)], .inr (.inr (0, 10, 1))),
  (63, [], .inr (.inr (2, 3, 0))),
  (64, [.inr (.aload_n 0), .inr (.iload_n 2)], .inr (.inr (1, 130, 12))),
  (69, [], .inl (.lt, false, 14, 13)),
  (72, [.inl (.int 1)], .inr (.inr (0, 15, 0))),
  (76, [.inl (.int 0)], .inr (.inr (0, 15, 1))),
  (77, [], .inr (.inr (2, 3, 0)))]
def zp_G_remember : List zB := [(0, [.inr (.aload_n 0), .inr (.invokeinterface 0 8), .inl (.int 10)], .inl (.ne, true, 3, 1)),
  (9, [.inr (.aload_n 0), .inr (.invokeinterface 0 7), .inl (.int 1), .inr (.aload_n 0), .inr (.invokeinterface 0 7), .inl (.int 0), .inl (.int 9)], .inr (.inr (3, 0, 2))),
  (24, [.inr (.aload_n 0), .inr .dup, .inr (.invokeinterface 0 8), .inl (.int 1), .inr .isub, .inr (.multianewarray 0 8)], .inr (.inr (0, 3, 1))),
  (34, [.inr (.aload_n 0), .inr (.invokeinterface 0 7), .inr (.aload_n 0), .inr (.invokeinterface 0 8), .inr (.iload_n 1), .inl (.int 10), .inr .imul, .inr (.aload_n 0), .inr (.invokeinterface 0 0), .inr (.iload_n 1), .inr .iaload, .inr .iadd, .inl (.int 2), .inr .imul, .inr (.aload_n 0), .inr (.invokeinterface 0 4), .inr (.iload_n 1)], .inr (.inr (1, 153, 4))),
  (63, [], .inl (.eq, false, 6, 5)),
  (66, [.inl (.int 1)], .inr (.inr (0, 7, 0))),
  (70, [.inl (.int 0)], .inr (.inr (0, 7, 1))),
  (71, [.inr .iadd, .inr .iastore, .inr (.aload_n 0), .inr .dup, .inr (.invokeinterface 0 8), .inl (.int 1), .inr .iadd, .inr (.multianewarray 0 8)], .inr (.inr (2, 0, 0)))]
def zp_G_forget : List zB := [(0, [.inr (.aload_n 0), .inl (.int 0), .inr (.multianewarray 0 8)], .inr (.inr (2, 0, 0)))]
def zp_G_takeBack : List zB := [(0, [.inr (.aload_n 0), .inr (.invokeinterface 0 8)], .inl (.ne, false, 2, 1)),
  (7, [.inl (.int (-4))], .inr (.inr (2, 1, 0))),
  (10, [.inr (.aload_n 0), .inr .dup, .inr (.invokeinterface 0 8), .inl (.int 1), .inr .isub, .inr (.multianewarray 0 8), .inr (.aload_n 0), .inr (.invokeinterface 0 7), .inr (.aload_n 0), .inr (.invokeinterface 0 8), .inr .iaload, .inr (.istore_n 1), .inr (.iload_n 1), .inl (.int 2), .inr .idiv, .inl (.int 10), .inr .idiv, .inr (.istore_n 2), .inr (.aload_n 0), .inr (.iload_n 2), .inr (.iload_n 1), .inl (.int 2), .inr .idiv, .inl (.int 10), .inr .irem], .inr (.inr (1, 126, 3))),
  (48, [.inr (.aload_n 0), .inr (.iload_n 1), .inl (.int 2), .inr .irem, .inl (.int 1)], .inl (.ne, true, 5, 4)),
  (56, [.inr (.aload_n 0), .inr (.invokeinterface 0 4), .inl (.long 1), .inr (.iload_n 2), .inr .lshl, .inr .lor], .inr (.inr (0, 6, 0))),
  (67, [.inr (.aload_n 0), .inr (.invokeinterface 0 4), .inl (.long 1), .inr (.iload_n 2), .inr .lshl, .inl (.long (-1)), .inr .lxor, .inr .land], .inr (.inr (0, 6, 1))),
  (79, [.inr (.multianewarray 0 4), .inr (.aload_n 0), .inr (.invokeinterface 0 8)], .inr (.inr (2, 1, 0)))]
def zp_G_drawn : List zB := [(0, [.inr (.aload_n 0), .inr (.aload_n 0), .inr (.invokeinterface 0 6), .inl (.int 1103515245), .inr .imul, .inl (.int 12345), .inr .iadd, .inl (.int 2147483647), .inr .iand, .inr (.multianewarray 0 6), .inr (.aload_n 0), .inr (.invokeinterface 0 6), .inl (.int 65536), .inr .idiv], .inr (.inr (2, 1, 0)))]
def zp_G_yearByLot : List zB := [(0, [.inr (.aload_n 0)], .inr (.inr (1, 135, 1))),
  (4, [.inl (.int 36), .inr .irem, .inr (.istore_n 1), .inr (.aload_n 0)], .inr (.inr (1, 135, 2))),
  (12, [.inl (.int 4), .inr .irem], .inl (.ne, false, 8, 3)),
  (17, [.inr (.aload_n 0), .inr (.iload_n 1)], .inr (.inr (1, 129, 4))),
  (22, [], .inl (.lt, false, 6, 5)),
  (25, [.inl (.int 100)], .inr (.inr (0, 7, 0))),
  (30, [.inl (.int 0)], .inr (.inr (0, 7, 1))),
  (31, [], .inr (.inr (2, 1, 0))),
  (32, [.inr (.aload_n 0), .inr (.iload_n 1)], .inr (.inr (1, 128, 9))),
  (37, [], .inl (.lt, false, 11, 10)),
  (40, [.inl (.int 1)], .inr (.inr (0, 12, 0))),
  (44, [.inl (.int 0)], .inr (.inr (0, 12, 1))),
  (45, [], .inr (.inr (2, 1, 0)))]
def zp_G_depths : List zB := [(0, [.inl (.int 0), .inr (.istore_n 1), .inr (.aload_n 0), .inr (.invokeinterface 0 0), .inr (.astore_n 2), .inr (.aload_n 2), .inr .arraylength, .inr (.istore_n 3), .inl (.int 0), .inr (.istore 4)], .inr (.inr (0, 1, 1))),
  (13, [.inr (.iload 4), .inr (.iload_n 3)], .inl (.ge, true, 3, 2)),
  (19, [.inr (.aload_n 2), .inr (.iload 4), .inr .iaload, .inr (.istore 5), .inr (.iload_n 1), .inr (.iload 5), .inr .iadd, .inr (.istore_n 1), .inr (.iinc 4 1)], .inr (.inr (0, 1, 0))),
  (36, [.inr (.iload_n 1)], .inr (.inr (2, 1, 0)))]
def zp_G_holeAt : List zB := [(0, [.inl (.long 1), .inr (.iload_n 1), .inr .lshl, .inr (.aload_n 0), .inr (.invokeinterface 0 2)], .inr (.inr (1, 156, 1))),
  (10, [], .inr (.inr (2, 2, 0)))]
def zp_G_kindOf : List zB := [(0, [.inr (.lload_n 1), .inr (.aload_n 0), .inr (.invokeinterface 0 4), .inl (.long (-1)), .inr .lxor, .inr .land, .inl (.long 0), .inr .lcmp], .inl (.ne, false, 2, 1)),
  (15, [.inl (.int 4)], .inr (.inr (2, 1, 0))),
  (17, [.inr (.lload_n 1), .inl (.long 63), .inr .land, .inl (.long 0), .inr .lcmp], .inl (.eq, false, 5, 3)),
  (27, [.inr (.lload_n 1), .inl (.long 67645734912), .inr .land, .inl (.long 0), .inr .lcmp], .inl (.eq, false, 5, 4)),
  (37, [.inl (.int 1)], .inr (.inr (0, 6, 0))),
  (41, [.inl (.int 0)], .inr (.inr (0, 6, 1))),
  (42, [.inr (.istore 5), .inr (.lload_n 1), .inl (.long 1090785345), .inr .land, .inl (.long 0), .inr .lcmp], .inl (.eq, false, 9, 7)),
  (54, [.inr (.lload_n 1), .inl (.long 34905131040), .inr .land, .inl (.long 0), .inr .lcmp], .inl (.eq, false, 9, 8)),
  (64, [.inl (.int 1)], .inr (.inr (0, 10, 0))),
  (68, [.inl (.int 0)], .inr (.inr (0, 10, 1))),
  (69, [.inr (.istore 6), .inr (.iload 5)], .inl (.ne, false, 12, 11)),
  (76, [.inr (.iload 6)], .inl (.eq, false, 13, 12)),
  (81, [.inl (.int 3)], .inr (.inr (2, 1, 0))),
  (83, [.inr (.lload_n 1), .inl (.long 68208171135), .inr .land, .inl (.long 0), .inr .lcmp], .inl (.eq, false, 15, 14)),
  (93, [.inl (.int 1)], .inr (.inr (2, 1, 0))),
  (95, [.inr (.lload_n 1), .inr (.lload_n 3), .inr .land, .inl (.long 0), .inr .lcmp], .inl (.eq, false, 17, 16)),
  (103, [.inl (.int 2)], .inr (.inr (0, 18, 0))),
  (107, [.inl (.int 0)], .inr (.inr (0, 18, 1))),
  (108, [], .inr (.inr (2, 1, 0)))]
def zp_G_taxOf : List zB := [(0, [.inr (.lload_n 1)], .inr (.inr (1, 185, 1))),
  (4, [.inr (.istore 5), .inr (.aload_n 0), .inr (.invokeinterface 0 5), .inr (.iload 5), .inr .imul, .inr (.aload_n 0), .inr (.invokeinterface 0 5), .inl (.int 0), .inr (.iload 5), .inl (.int 3), .inr .isub], .inr (.inr (4, 0, 2))),
  (25, [.inr .imul, .inr .iadd, .inr (.istore 6), .inr (.aload_n 0), .inr (.lload_n 1), .inr (.lload_n 3)], .inr (.inr (1, 139, 3))),
  (35, [], .inr (.inl ([(1, 4), (2, 5), (3, 6), (4, 8)], 10))),
  (64, [.inr (.iload 6), .inl (.int 2), .inr .idiv], .inr (.inr (2, 1, 0))),
  (69, [.inr (.iload 6), .inl (.int 10), .inr .iadd], .inr (.inr (2, 1, 0))),
  (75, [.inr (.iload 6), .inl (.int 2), .inr .idiv, .inr (.lload_n 1)], .inr (.inr (1, 160, 7))),
  (83, [.inr .iadd], .inr (.inr (2, 1, 0))),
  (85, [.inl (.int 0), .inr (.iload 6), .inl (.int 10), .inr .iadd, .inl (.int 3), .inr (.iload 5), .inr .imul, .inr .isub], .inr (.inr (4, 0, 9))),
  (99, [], .inr (.inr (2, 1, 0))),
  (100, [.inr (.iload 6)], .inr (.inr (2, 1, 0)))]
def zp_G_taxOfAll : List zB := [(0, [.inl (.int 0), .inr (.istore 5), .inr (.lload_n 1), .inr (.lstore 6), .inl (.int 0), .inr (.istore 8)], .inr (.inr (0, 1, 1))),
  (9, [.inr (.iload 8), .inl (.int 36)], .inl (.ge, true, 6, 2)),
  (16, [.inr (.lload 6), .inl (.long 0), .inr .lcmp], .inl (.eq, false, 6, 3)),
  (23, [.inr (.lload 6)], .inr (.inr (1, 157, 4))),
  (28, [.inr (.lstore 9), .inr (.iload 5), .inr (.aload_n 0), .inr (.lload 9), .inr (.lload_n 3)], .inr (.inr (1, 140, 5))),
  (39, [.inr .iadd, .inr (.istore 5), .inr (.lload 6), .inr (.lload 9), .inl (.long (-1)), .inr .lxor, .inr .land, .inr (.lstore 6), .inr (.iinc 8 1)], .inr (.inr (0, 1, 0))),
  (59, [.inr (.iload 5)], .inr (.inr (2, 1, 0)))]
def zp_G_landOf : List zB := [(0, [.inl (.long 0), .inr (.lstore_n 2), .inl (.int 0), .inr (.istore 4)], .inr (.inr (0, 1, 1))),
  (5, [.inr (.iload 4), .inl (.int 36)], .inl (.ge, true, 5, 2)),
  (12, [.inr (.aload_n 0), .inr (.invokeinterface 0 1), .inr (.iload 4), .inr .iaload, .inr (.iload_n 1)], .inl (.ne, true, 4, 3)),
  (23, [.inr (.lload_n 2), .inl (.long 1), .inr (.iload 4), .inr .lshl, .inr .lor, .inr (.lstore_n 2)], .inr (.inr (0, 4, 1))),
  (30, [.inr (.iinc 4 1)], .inr (.inr (0, 1, 0))),
  (36, [.inr (.lload_n 2)], .inr (.inr (2, 2, 0)))]
def zp_G_ownerOf : List zB := [(0, [.inr (.lload_n 1)], .inr (.inr (1, 159, 1))),
  (4, [.inr (.lstore_n 3), .inl (.int 4), .inr (.istore 5), .inl (.int 0), .inr (.istore 6), .inl (.int 0), .inr (.istore 7)], .inr (.inr (0, 2, 1))),
  (14, [.inr (.iload 7), .inl (.int 4)], .inl (.ge, true, 8, 3)),
  (20, [.inr (.lload_n 3), .inr (.aload_n 0), .inr (.iload 7)], .inr (.inr (1, 142, 4))),
  (27, [.inr .land], .inr (.inr (1, 185, 5))),
  (31, [.inr (.istore 8), .inr (.iload 8), .inr (.iload 6)], .inl (.le, true, 7, 6)),
  (40, [.inr (.iload 8), .inr (.istore 6), .inr (.iload 7), .inr (.istore 5)], .inr (.inr (0, 7, 1))),
  (48, [.inr (.iinc 7 1)], .inr (.inr (0, 2, 0))),
  (54, [.inr (.iload 5)], .inr (.inr (2, 1, 0)))]
def zp_G_partOf : List zB := [(0, [.inr (.lload_n 1)], .inr (.inr (1, 159, 1))),
  (4, [.inr (.lstore 4), .inr (.lload 4), .inr (.aload_n 0), .inl (.int 4)], .inr (.inr (1, 142, 2))),
  (13, [.inl (.long (-1)), .inr .lxor, .inr .land], .inr (.inr (1, 185, 3))),
  (21, [.inr (.istore 6), .inr (.iload 6)], .inl (.ne, false, 5, 4)),
  (28, [.inl (.int 0)], .inr (.inr (2, 1, 0))),
  (30, [.inr (.aload_n 0), .inr (.lload_n 1), .inr (.aload_n 0), .inr (.invokeinterface 0 3)], .inr (.inr (1, 140, 6))),
  (39, [.inr (.lload 4), .inr (.aload_n 0), .inr (.iload_n 3)], .inr (.inr (1, 142, 7))),
  (46, [.inr .land], .inr (.inr (1, 185, 8))),
  (50, [.inr .imul, .inr (.iload 6), .inr .idiv], .inr (.inr (2, 1, 0)))]
def zp_G_partOfAll : List zB := [(0, [.inl (.int 0), .inr (.istore_n 2), .inr (.aload_n 0), .inr (.invokeinterface 0 2), .inr (.lstore_n 3), .inl (.int 0), .inr (.istore 5)], .inr (.inr (0, 1, 1))),
  (10, [.inr (.iload 5), .inl (.int 36)], .inl (.ge, true, 6, 2)),
  (17, [.inr (.lload_n 3), .inl (.long 0), .inr .lcmp], .inl (.eq, false, 6, 3)),
  (23, [.inr (.lload_n 3)], .inr (.inr (1, 157, 4))),
  (27, [.inr (.lstore 6), .inr (.iload_n 2), .inr (.aload_n 0), .inr (.lload 6), .inr (.iload_n 1)], .inr (.inr (1, 144, 5))),
  (37, [.inr .iadd, .inr (.istore_n 2), .inr (.lload_n 3), .inr (.lload 6), .inl (.long (-1)), .inr .lxor, .inr .land, .inr (.lstore_n 3), .inr (.iinc 5 1)], .inr (.inr (0, 1, 0))),
  (54, [.inr (.iload_n 2)], .inr (.inr (2, 1, 0)))]
def zp_G_leastFilled : List zB := [(0, [.inr (.aload_n 0), .inr (.aload_n 0), .inr (.invokeinterface 0 2), .inr (.aload_n 0), .inr (.invokeinterface 0 3)], .inr (.inr (1, 141, 1))),
  (12, [.inr (.iload_n 1)], .inl (.gt, true, 3, 2)),
  (16, [.inl (.long 0)], .inr (.inr (2, 2, 0))),
  (18, [.inl (.int 0), .inr (.istore_n 2)], .inr (.inr (0, 4, 1))),
  (20, [.inr (.iload_n 2), .inl (.int 36)], .inl (.ge, true, 11, 5)),
  (26, [.inr (.aload_n 0), .inr (.invokeinterface 0 2), .inr (.iload_n 2)], .inr (.inr (1, 153, 6))),
  (34, [], .inl (.eq, false, 10, 7)),
  (37, [.inr (.aload_n 0), .inr (.aload_n 0), .inr (.invokeinterface 0 2), .inl (.long 1), .inr (.iload_n 2), .inr .lshl, .inl (.long (-1)), .inr .lxor, .inr .land, .inr (.aload_n 0), .inr (.invokeinterface 0 3)], .inr (.inr (1, 141, 8))),
  (57, [.inr (.iload_n 1)], .inl (.gt, true, 10, 9)),
  (61, [.inl (.long 1), .inr (.iload_n 2), .inr .lshl], .inr (.inr (2, 2, 0))),
  (65, [.inr (.iinc 2 1)], .inr (.inr (0, 4, 0))),
  (71, [.inl (.int 0), .inr (.istore_n 2)], .inr (.inr (0, 12, 1))),
  (73, [.inr (.iload_n 2), .inl (.int 36)], .inl (.ge, true, 24, 13)),
  (79, [.inr (.iload_n 2), .inl (.int 1), .inr .iadd, .inr (.istore_n 3)], .inr (.inr (0, 14, 1))),
  (83, [.inr (.aload_n 0), .inr (.invokeinterface 0 2), .inr (.iload_n 2)], .inr (.inr (1, 153, 15))),
  (91, [], .inl (.eq, false, 23, 16)),
  (94, [.inr (.iload_n 3), .inl (.int 36)], .inl (.ge, true, 23, 17)),
  (100, [.inl (.long 1), .inr (.iload_n 2), .inr .lshl, .inl (.long 1), .inr (.iload_n 3), .inr .lshl, .inr .lor, .inr (.lstore 4), .inr (.aload_n 0), .inr (.invokeinterface 0 2), .inr (.iload_n 3)], .inr (.inr (1, 153, 18))),
  (117, [], .inl (.eq, false, 22, 19)),
  (120, [.inr (.aload_n 0), .inr (.aload_n 0), .inr (.invokeinterface 0 2), .inr (.lload 4), .inl (.long (-1)), .inr .lxor, .inr .land, .inr (.aload_n 0), .inr (.invokeinterface 0 3)], .inr (.inr (1, 141, 20))),
  (139, [.inr (.iload_n 1)], .inl (.gt, true, 22, 21)),
  (143, [.inr (.lload 4)], .inr (.inr (2, 2, 0))),
  (146, [.inr (.iinc 3 1)], .inr (.inr (0, 14, 0))),
  (152, [.inr (.iinc 2 1)], .inr (.inr (0, 12, 0))),
  (158, [.inl (.long (-1))], .inr (.inr (2, 2, 0)))]
def zp_G_fits : List zB := [(0, [.inr (.aload_n 0), .inr (.invokeinterface 0 2), .inr (.lload_n 1), .inl (.long (-1)), .inr .lxor, .inr .land, .inr (.lload_n 3), .inr .lor, .inr (.lstore 7), .inr (.iload 5)], .inl (.lt, false, 4, 1)),
  (19, [.inr (.lload 7)], .inr (.inr (1, 158, 2))),
  (24, [.inr (.iload 5)], .inl (.eq, true, 4, 3)),
  (29, [.inl (.int 0)], .inr (.inr (2, 3, 0))),
  (31, [.inr (.iload 6)], .inl (.lt, false, 7, 5)),
  (36, [.inr (.aload_n 0), .inr (.lload 7), .inr (.aload_n 0), .inr (.invokeinterface 0 3), .inr (.lload_n 1), .inl (.long (-1)), .inr .lxor, .inr .land], .inr (.inr (1, 141, 6))),
  (52, [.inr (.iload 6)], .inl (.ne, true, 8, 7)),
  (57, [.inl (.int 1)], .inr (.inr (0, 9, 0))),
  (61, [.inl (.int 0)], .inr (.inr (0, 9, 1))),
  (62, [], .inr (.inr (2, 3, 0)))]
def zp_M_walk : List zB := [(0, [.inr (.aload_n 0), .inl (.int 0), .inr (.multianewarray 1 5), .inr (.lload_n 2), .inr (.lstore 4)], .inr (.inr (0, 1, 1))),
  (8, [.inr (.lload 4), .inl (.long 0), .inr .lcmp], .inl (.eq, false, 5, 2)),
  (15, [.inr (.aload_n 0), .inr (.invokeinterface 1 5), .inl (.int 8)], .inl (.ge, true, 5, 3)),
  (24, [.inr (.lload 4)], .inr (.inr (1, 157, 4))),
  (29, [.inr (.lstore 6), .inr (.aload_n 0), .inr (.invokeinterface 1 0), .inr (.aload_n 0), .inr (.invokeinterface 1 5), .inr (.lload 6), .inr .lastore, .inr (.aload_n 0), .inr .dup, .inr (.invokeinterface 1 5), .inl (.int 1), .inr .iadd, .inr (.multianewarray 1 5), .inr (.lload 4), .inr (.lload 6), .inl (.long (-1)), .inr .lxor, .inr .land, .inr (.lstore 4)], .inr (.inr (0, 1, 0))),
  (66, [.inl (.int 0), .inr (.istore 6), .inl (.int 0), .inr (.istore 7)], .inr (.inr (0, 6, 1))),
  (72, [.inr (.iload 7), .inr (.aload_n 0), .inr (.invokeinterface 1 5)], .inl (.ge, true, 9, 7)),
  (81, [.inr (.aload_n 0), .inr (.iload 7), .inr (.lload_n 2)], .inr (.inr (1, 149, 8))),
  (88, [.inr (.iload 6), .inr (.aload_n 0), .inr (.invokeinterface 1 1), .inr (.iload 7), .inr .iaload, .inr .iadd, .inr (.istore 6), .inr (.iinc 7 1)], .inr (.inr (0, 6, 0))),
  (106, [.inr (.aload_n 0), .inl (.int 1000), .inr (.multianewarray 1 6), .inr (.aload_n 0), .inr (.iload_n 1), .inl (.int 0), .inl (.int 0), .inr (.iload 6), .inl (.int 0)], .inr (.inr (1, 152, 10))),
  (123, [], .inr (.inr (2, 0, 0)))]
def zp_M_measure : List zB := [(0, [.inr (.aload_n 0), .inr (.invokeinterface 1 1), .inr (.iload_n 1), .inl (.int 1000), .inr .iastore, .inl (.int 0), .inr (.istore 4)], .inr (.inr (0, 1, 1))),
  (12, [.inr (.iload 4), .inl (.int 36)], .inl (.ge, true, 9, 2)),
  (19, [.inr (.aload_n 0), .inr (.invokeinterface 1 0), .inr (.iload_n 1), .inr .laload, .inr (.iload 4)], .inr (.inr (1, 150, 3))),
  (30, [.inr (.istore 5), .inr (.aload_n 0), .inr (.invokeinterface 1 2), .inr (.iload_n 1), .inl (.int 36), .inr .imul, .inr (.iload 4), .inr .iadd, .inr (.iload 5), .inr .iastore, .inr (.lload_n 2), .inr (.aload_n 0), .inr (.invokeinterface 1 0), .inr (.iload_n 1), .inr .laload, .inl (.long (-1)), .inr .lxor, .inr .land, .inr (.iload 4)], .inr (.inr (1, 153, 4))),
  (63, [], .inl (.eq, false, 8, 5)),
  (66, [.inr (.aload_n 0), .inr (.invokeinterface 1 1), .inr (.iload_n 1), .inr (.aload_n 0), .inr (.invokeinterface 1 1), .inr (.iload_n 1), .inr .iaload, .inr (.iload 4), .inr (.iload 5)], .inr (.inr (1, 151, 6))),
  (84, [], .inr (.inr (4, 1, 7))),
  (87, [.inr .iastore], .inr (.inr (0, 8, 1))),
  (88, [.inr (.iinc 4 1)], .inr (.inr (0, 1, 0))),
  (94, [], .inr (.inr (2, 0, 0)))]
def zp_M_nearestOf : List zB := [(0, [.inr (.iload_n 2), .inr (.istore_n 3), .inl (.int 1000), .inr (.istore 4), .inl (.int 0), .inr (.istore 5)], .inr (.inr (0, 1, 1))),
  (10, [.inr (.iload 5), .inl (.int 36)], .inl (.ge, true, 9, 2)),
  (17, [.inr (.lload_n 0), .inr (.iload 5)], .inr (.inr (1, 153, 3))),
  (23, [], .inl (.eq, false, 8, 4)),
  (26, [.inr (.iload_n 2), .inr (.iload 5)], .inr (.inr (1, 151, 5))),
  (32, [.inr (.iload 4)], .inl (.ge, true, 8, 6)),
  (37, [.inr (.iload_n 2), .inr (.iload 5)], .inr (.inr (1, 151, 7))),
  (43, [.inr (.istore 4), .inr (.iload 5), .inr (.istore_n 3)], .inr (.inr (0, 8, 1))),
  (48, [.inr (.iinc 5 1)], .inr (.inr (0, 1, 0))),
  (54, [.inr (.iload_n 3)], .inr (.inr (2, 1, 0)))]
def zp_M_steps : List zB := [(0, [.inr (.iload_n 0), .inl (.int 6), .inr .idiv, .inr (.iload_n 1), .inl (.int 6), .inr .idiv, .inr .isub], .inr (.inr (4, 2, 1))),
  (12, [.inr (.iload_n 0), .inl (.int 6), .inr .irem, .inr (.iload_n 1), .inl (.int 6), .inr .irem, .inr .isub], .inr (.inr (4, 2, 2))),
  (24, [.inr .iadd], .inr (.inr (2, 1, 0)))]
def zp_M_seek : List zB := [(0, [.inr (.iload 5)], .inl (.le, false, 3, 1)),
  (5, [.inr (.iload_n 3), .inr (.iload 4), .inr .iadd, .inr (.aload_n 0), .inr (.invokeinterface 1 6)], .inl (.lt, true, 3, 2)),
  (16, [], .inr (.inr (2, 0, 0))),
  (17, [.inr (.iload 5), .inr (.aload_n 0), .inr (.invokeinterface 1 5)], .inl (.lt, true, 9, 4)),
  (26, [.inr (.aload_n 0), .inr (.iload_n 3), .inr (.multianewarray 1 6), .inl (.int 0), .inr (.istore 6)], .inr (.inr (0, 5, 1))),
  (34, [.inr (.iload 6), .inr (.aload_n 0), .inr (.invokeinterface 1 5)], .inl (.ge, true, 8, 6)),
  (43, [.inr (.aload_n 0), .inr (.invokeinterface 1 4), .inr (.iload 6), .inr (.aload_n 0), .inr (.invokeinterface 1 0), .inr (.aload_n 0), .inr (.invokeinterface 1 3), .inr (.iload 6), .inr .iaload, .inr .laload], .inr (.inr (1, 154, 7))),
  (64, [.inr .iastore, .inr (.iinc 6 1)], .inr (.inr (0, 5, 0))),
  (71, [], .inr (.inr (2, 0, 0))),
  (72, [.inl (.int 0), .inr (.istore 6)], .inr (.inr (0, 10, 1))),
  (75, [.inr (.iload 6), .inr (.aload_n 0), .inr (.invokeinterface 1 5)], .inl (.ge, true, 16, 11)),
  (84, [.inr (.iload_n 2), .inr (.iload 6), .inr .ishr, .inl (.int 1), .inr .iand], .inl (.eq, false, 13, 12)),
  (93, [], .inr (.inr (0, 15, 0))),
  (96, [.inr (.aload_n 0), .inr (.invokeinterface 1 3), .inr (.iload 5), .inr (.iload 6), .inr .iastore, .inr (.aload_n 0), .inr (.invokeinterface 1 2), .inr (.iload 6), .inl (.int 36), .inr .imul, .inr (.iload_n 1), .inr .iadd, .inr .iaload, .inr (.istore 7), .inr (.aload_n 0), .inr (.iload 7), .inr (.iload_n 2), .inl (.int 1), .inr (.iload 6), .inr .ishl, .inr .ior, .inr (.iload_n 3), .inr (.iload_n 1), .inr (.iload 7)], .inr (.inr (1, 151, 14))),
  (135, [.inr .iadd, .inr (.iload 4), .inr (.aload_n 0), .inr (.invokeinterface 1 1), .inr (.iload 6), .inr .iaload, .inr .isub, .inr (.iload 5), .inl (.int 1), .inr .iadd], .inr (.inr (1, 152, 15))),
  (153, [.inr (.iinc 6 1)], .inr (.inr (0, 10, 0))),
  (159, [], .inr (.inr (2, 0, 0)))]
def zp_P_has : List zB := [(0, [.inr (.lload_n 0), .inr (.iload_n 2), .inr .lushr, .inl (.long 1), .inr .land, .inl (.long 0), .inr .lcmp], .inl (.eq, false, 2, 1)),
  (10, [.inl (.int 1)], .inr (.inr (0, 3, 0))),
  (14, [.inl (.int 0)], .inr (.inr (0, 3, 1))),
  (15, [], .inr (.inr (2, 3, 0)))]
def zp_P_least : List zB := [(0, [.inr (.lload_n 0), .inr (.lload_n 0), .inr .lneg, .inr .land, .inl (.long 1), .inr .lsub], .inr (.inr (1, 185, 1))),
  (9, [], .inr (.inr (2, 1, 0)))]
def zp_P_beside : List zB := [(0, [.inr (.lload_n 0), .inl (.int 6), .inr .lshl, .inr (.lload_n 0), .inl (.int 6), .inr .lushr, .inr .lor, .inr (.lstore_n 2), .inr (.lload_n 2), .inr (.lload_n 0), .inl (.long (-34905131041)), .inr .land, .inl (.int 1), .inr .lshl, .inr .lor, .inr (.lload_n 0), .inl (.long (-1090785346)), .inr .land, .inl (.int 1), .inr .lushr, .inr .lor, .inl (.long 68719476735), .inr .land], .inr (.inr (2, 2, 0)))]
def zp_P_spread : List zB := [(0, [.inr (.lload_n 0), .inr (.lload_n 2), .inr .land, .inr (.lstore 4), .inl (.int 0), .inr (.istore 6)], .inr (.inr (0, 1, 1))),
  (8, [.inr (.iload 6), .inl (.int 36)], .inl (.ge, true, 6, 2)),
  (15, [.inr (.lload 4), .inr (.lload 4)], .inr (.inr (1, 155, 3))),
  (22, [.inr .lor, .inr (.lload_n 2), .inr .land, .inr (.lstore 7), .inr (.lload 7), .inr (.lload 4), .inr .lcmp], .inl (.ne, false, 5, 4)),
  (35, [], .inr (.inr (0, 6, 0))),
  (38, [.inr (.lload 7), .inr (.lstore 4), .inr (.iinc 6 1)], .inr (.inr (0, 1, 0))),
  (48, [.inr (.lload 4)], .inr (.inr (2, 2, 0)))]
def zp_P_firstHole : List zB := [(0, [.inr (.lload_n 0), .inr (.lload_n 0), .inr .lneg, .inr .land, .inr (.lload_n 0)], .inr (.inr (1, 156, 1))),
  (8, [], .inr (.inr (2, 2, 0)))]
def zp_P_holesOf : List zB := [(0, [.inl (.int 0), .inr (.istore_n 2), .inr (.lload_n 0), .inr (.lstore_n 3)], .inr (.inr (0, 1, 1))),
  (4, [.inr (.lload_n 3), .inl (.long 0), .inr .lcmp], .inl (.eq, false, 5, 2)),
  (10, [.inr (.iload_n 2), .inl (.int 36)], .inl (.ge, true, 5, 3)),
  (16, [.inr (.lload_n 3), .inr (.lload_n 3)], .inr (.inr (1, 157, 4))),
  (21, [.inl (.long (-1)), .inr .lxor, .inr .land, .inr (.lstore_n 3), .inr (.iinc 2 1)], .inr (.inr (0, 1, 0))),
  (33, [.inr (.iload_n 2)], .inr (.inr (2, 1, 0)))]
def zp_P_rimOf : List zB := [(0, [.inr (.lload_n 0)], .inr (.inr (1, 155, 1))),
  (4, [.inr (.lload_n 0), .inl (.long (-1)), .inr .lxor, .inr .land], .inr (.inr (2, 2, 0)))]
def zp_P_fenceOf : List zB := [(0, [.inr (.lload_n 0), .inr (.lload_n 0), .inl (.int 6), .inr .lushr, .inr .land], .inr (.inr (1, 185, 1))),
  (9, [.inr (.istore_n 2), .inr (.lload_n 0), .inr (.lload_n 0), .inl (.long (-1090785346)), .inr .land, .inl (.int 1), .inr .lushr, .inr .land], .inr (.inr (1, 185, 2))),
  (22, [.inr (.istore_n 3), .inl (.int 4), .inr (.lload_n 0)], .inr (.inr (1, 185, 3))),
  (28, [.inr .imul, .inl (.int 2), .inr (.iload_n 2), .inr (.iload_n 3), .inr .iadd, .inr .imul, .inr .isub], .inr (.inr (2, 1, 0)))]
def zp_P_withinOf : List zB := [(0, [.inl (.long 68719476735), .inr (.lload_n 0), .inl (.long (-1)), .inr .lxor, .inr .land, .inr (.lstore_n 2), .inr (.lload_n 2), .inl (.long 68208171135), .inr (.lload_n 2)], .inr (.inr (1, 156, 1))),
  (18, [.inl (.long (-1)), .inr .lxor, .inr .land], .inr (.inr (2, 2, 0)))]
def zp_P_nestedIn : List zB := [(0, [.inl (.int 0), .inr (.istore 4), .inr (.lload_n 2), .inr (.lstore 5), .inl (.int 0), .inr (.istore 7)], .inr (.inr (0, 1, 1))),
  (9, [.inr (.iload 7), .inl (.int 36)], .inl (.ge, true, 8, 2)),
  (16, [.inr (.lload 5), .inl (.long 0), .inr .lcmp], .inl (.eq, false, 8, 3)),
  (23, [.inr (.lload 5)], .inr (.inr (1, 157, 4))),
  (28, [.inr (.lstore 8), .inr (.lload 8)], .inr (.inr (1, 161, 5))),
  (35, [.inr (.lload_n 0), .inr .land, .inl (.long 0), .inr .lcmp], .inl (.eq, false, 7, 6)),
  (42, [.inr (.iinc 4 1)], .inr (.inr (0, 7, 1))),
  (45, [.inr (.lload 5), .inr (.lload 8), .inl (.long (-1)), .inr .lxor, .inr .land, .inr (.lstore 5), .inr (.iinc 7 1)], .inr (.inr (0, 1, 0))),
  (62, [.inr (.iload 4)], .inr (.inr (2, 1, 0)))]
def zp_P_broadestIn : List zB := [(0, [.inl (.int 0), .inr (.istore_n 2), .inr (.lload_n 0), .inr (.lstore_n 3)], .inr (.inr (0, 1, 1))),
  (4, [.inr (.lload_n 3), .inl (.long 0), .inr .lcmp], .inl (.eq, false, 4, 2)),
  (10, [.inr (.iload_n 2), .inl (.int 6)], .inl (.ge, true, 4, 3)),
  (16, [.inr (.iinc 2 1), .inr (.lload_n 3), .inr (.lload_n 3), .inl (.long (-1090785346)), .inr .land, .inl (.int 1), .inr .lushr, .inr .land, .inr (.lstore 5), .inr (.lload 5), .inr (.lload 5), .inl (.int 6), .inr .lushr, .inr .land, .inr (.lstore_n 3)], .inr (.inr (0, 1, 0))),
  (42, [.inr (.iload_n 2)], .inr (.inr (2, 1, 0)))]
def zp_P_mostCells : List zB := [(0, [.inl (.long 0), .inr (.lstore_n 2), .inr (.lload_n 0), .inr (.lstore 4), .inl (.int 0), .inr (.istore 6)], .inr (.inr (0, 1, 1))),
  (8, [.inr (.iload 6), .inl (.int 36)], .inl (.ge, true, 9, 2)),
  (15, [.inr (.lload 4), .inl (.long 0), .inr .lcmp], .inl (.eq, false, 9, 3)),
  (22, [.inr (.lload 4)], .inr (.inr (1, 157, 4))),
  (27, [.inr (.lstore 7), .inr (.lload 7)], .inr (.inr (1, 185, 5))),
  (34, [.inr (.lload_n 2)], .inr (.inr (1, 185, 6))),
  (38, [], .inl (.le, true, 8, 7)),
  (41, [.inr (.lload 7), .inr (.lstore_n 2)], .inr (.inr (0, 8, 1))),
  (44, [.inr (.lload 4), .inr (.lload 7), .inl (.long (-1)), .inr .lxor, .inr .land, .inr (.lstore 4), .inr (.iinc 6 1)], .inr (.inr (0, 1, 0))),
  (61, [.inr (.lload_n 2)], .inr (.inr (2, 2, 0)))]
def zp_P_leastCut : List zB := [(0, [.inr (.lload_n 0)], .inr (.inr (1, 163, 1))),
  (4, [.inr (.istore 4), .inr (.lload_n 0)], .inr (.inr (1, 159, 2))),
  (10, [.inr (.lstore 5), .inl (.int 0), .inr (.istore 7)], .inr (.inr (0, 3, 1))),
  (15, [.inr (.iload 7), .inl (.int 36)], .inl (.ge, true, 11, 4)),
  (22, [.inr (.lload 5), .inr (.iload 7)], .inr (.inr (1, 153, 5))),
  (29, [], .inl (.eq, false, 10, 6)),
  (32, [.inr (.lload_n 0), .inr (.lload_n 2), .inl (.long 1), .inr (.iload 7), .inr .lshl, .inr .lor], .inr (.inr (1, 156, 7))),
  (42, [], .inr (.inr (1, 163, 8))),
  (45, [.inr (.iload 4)], .inl (.le, true, 10, 9)),
  (50, [.inr (.iload 7)], .inr (.inr (2, 1, 0))),
  (53, [.inr (.iinc 7 1)], .inr (.inr (0, 3, 0))),
  (59, [.inl (.int (-4))], .inr (.inr (2, 1, 0)))]
def zp_P_isInPieces : List zB := [(0, [.inr (.lload_n 0), .inl (.long 0), .inr .lcmp], .inl (.eq, false, 4, 1)),
  (6, [.inr (.lload_n 0)], .inr (.inr (1, 157, 2))),
  (10, [.inr (.lload_n 0), .inr .lcmp], .inl (.eq, false, 4, 3)),
  (15, [.inl (.int 1)], .inr (.inr (0, 5, 0))),
  (19, [.inl (.int 0)], .inr (.inr (0, 5, 1))),
  (20, [], .inr (.inr (2, 3, 0)))]
def zp_P_leastSplit : List zB := [(0, [.inl (.int 0), .inr (.istore_n 2)], .inr (.inr (0, 1, 1))),
  (2, [.inr (.iload_n 2), .inl (.int 36)], .inl (.ge, true, 8, 2)),
  (8, [.inr (.lload_n 0), .inr (.iload_n 2)], .inr (.inr (1, 153, 3))),
  (13, [], .inl (.eq, false, 7, 4)),
  (16, [.inr (.lload_n 0), .inl (.long 1), .inr (.iload_n 2), .inr .lshl, .inl (.long (-1)), .inr .lxor, .inr .land], .inr (.inr (1, 166, 5))),
  (28, [], .inl (.eq, false, 7, 6)),
  (31, [.inl (.long 1), .inr (.iload_n 2), .inr .lshl], .inr (.inr (2, 2, 0))),
  (35, [.inr (.iinc 2 1)], .inr (.inr (0, 1, 0))),
  (41, [.inl (.int 0), .inr (.istore_n 2)], .inr (.inr (0, 9, 1))),
  (43, [.inr (.iload_n 2), .inl (.int 36)], .inl (.ge, true, 21, 10)),
  (49, [.inr (.iload_n 2), .inl (.int 1), .inr .iadd, .inr (.istore_n 3)], .inr (.inr (0, 11, 1))),
  (53, [.inr (.lload_n 0), .inr (.iload_n 2)], .inr (.inr (1, 153, 12))),
  (58, [], .inl (.eq, false, 20, 13)),
  (61, [.inr (.iload_n 3), .inl (.int 36)], .inl (.ge, true, 20, 14)),
  (67, [.inl (.long 1), .inr (.iload_n 2), .inr .lshl, .inl (.long 1), .inr (.iload_n 3), .inr .lshl, .inr .lor, .inr (.lstore 4), .inr (.lload_n 0), .inr (.iload_n 3)], .inr (.inr (1, 153, 15))),
  (81, [], .inl (.eq, false, 19, 16)),
  (84, [.inr (.lload_n 0), .inr (.lload 4), .inl (.long (-1)), .inr .lxor, .inr .land], .inr (.inr (1, 166, 17))),
  (95, [], .inl (.eq, false, 19, 18)),
  (98, [.inr (.lload 4)], .inr (.inr (2, 2, 0))),
  (101, [.inr (.iinc 3 1)], .inr (.inr (0, 11, 0))),
  (107, [.inr (.iinc 2 1)], .inr (.inr (0, 9, 0))),
  (113, [.inl (.long (-1))], .inr (.inr (2, 2, 0)))]
def zp_P_gapBetween : List zB := [(0, [.inr (.lload_n 0), .inr (.lload 4)], .inr (.inr (1, 156, 1))),
  (6, [.inr (.lstore 8), .inl (.int 0), .inr (.istore 10)], .inr (.inr (0, 2, 1))),
  (11, [.inr (.iload 10), .inl (.int 36)], .inl (.gt, true, 8, 3)),
  (18, [.inr (.lload 8), .inr (.lload_n 2), .inr .land, .inl (.long 0), .inr .lcmp], .inl (.eq, false, 5, 4)),
  (27, [.inr (.iload 10)], .inr (.inr (2, 1, 0))),
  (30, [.inr (.lload 8), .inr (.lload 8)], .inr (.inr (1, 155, 6))),
  (37, [.inr (.lload 6), .inr .land, .inr .lor, .inr (.lstore 11), .inr (.lload 11), .inr (.lload 4), .inr (.lload 11), .inr .lor], .inr (.inr (1, 156, 7))),
  (53, [.inr (.lstore 8), .inr (.iinc 10 1)], .inr (.inr (0, 2, 0))),
  (61, [.inl (.int 37)], .inr (.inr (2, 1, 0)))]
def zp_P_leastDug : List zB := [(0, [.inl (.long 0), .inr (.lstore 6), .inl (.long 68719476735), .inr (.lload 4), .inl (.long (-1)), .inr .lxor, .inr .land, .inr (.lstore 8), .inr (.lload_n 0), .inr (.lload_n 2), .inr (.lload 4), .inr (.lload 8)], .inr (.inr (1, 168, 1))),
  (24, [.inr (.istore 10), .inl (.int 0), .inr (.istore 11)], .inr (.inr (0, 2, 1))),
  (29, [.inr (.iload 11), .inl (.int 36)], .inl (.ge, true, 8, 3)),
  (36, [.inr (.iload 10)], .inl (.le, false, 8, 4)),
  (41, [.inr (.lload 4), .inr (.lload 6), .inr .lor, .inl (.long 1), .inr (.iload 11), .inr .lshl, .inr .lor, .inr (.lstore 12), .inr (.lload_n 0), .inr (.lload_n 2), .inr (.lload 12), .inr (.lload 8)], .inr (.inr (1, 168, 5))),
  (62, [.inr (.iload 10)], .inl (.ge, true, 7, 6)),
  (67, [.inr (.lload 6), .inl (.long 1), .inr (.iload 11), .inr .lshl, .inr .lor, .inr (.lstore 6), .inr (.iinc 10 (-1))], .inr (.inr (0, 7, 1))),
  (79, [.inr (.iinc 11 1)], .inr (.inr (0, 2, 0))),
  (85, [.inr (.lload 6)], .inr (.inr (2, 2, 0)))]
def zp_R_begin : List zB := [(0, [.inr (.aload_n 0), .inl (.int 1), .inr (.multianewarray 2 1), .inr (.aload_n 0), .inr (.iload_n 1), .inr (.multianewarray 2 2), .inr (.aload_n 0), .inr (.iload_n 2), .inr (.multianewarray 2 3), .inl (.int 0), .inr (.istore_n 3)], .inr (.inr (0, 1, 1))),
  (17, [.inr (.iload_n 3), .inl (.int 36)], .inl (.ge, true, 3, 2)),
  (23, [.inr (.aload_n 0), .inr (.invokeinterface 2 0), .inr (.iload_n 3), .inl (.long 0), .inr .lastore, .inr (.iinc 3 1)], .inr (.inr (0, 1, 0))),
  (36, [], .inr (.inr (2, 0, 0)))]
def zp_R_spans : List zB := [(0, [.inr (.iload_n 1)], .inl (.lt, false, 5, 1)),
  (4, [.inr (.iload_n 2)], .inl (.lt, false, 5, 2)),
  (8, [.inr (.iload_n 2), .inr (.aload_n 0), .inr (.invokeinterface 2 3)], .inl (.gt, true, 5, 3)),
  (16, [.inr (.iload_n 1), .inr (.aload_n 0), .inr (.invokeinterface 2 3), .inr (.iload_n 2), .inr .isub], .inl (.gt, true, 5, 4)),
  (26, [.inl (.int 1)], .inr (.inr (0, 6, 0))),
  (30, [.inl (.int 0)], .inr (.inr (0, 6, 1))),
  (31, [], .inr (.inr (2, 3, 0)))]
def zp_R_put : List zB := [(0, [.inr (.aload_n 0), .inr (.iload_n 1), .inl (.int 1)], .inr (.inr (1, 171, 1))),
  (6, [], .inl (.ne, false, 3, 2)),
  (9, [], .inr (.inr (2, 0, 0))),
  (10, [.inr (.aload_n 0), .inr (.invokeinterface 2 2)], .inr (.inl ([(0, 4), (1, 5), (2, 6)], 7))),
  (40, [.inr (.aload_n 0), .inr (.invokeinterface 2 0), .inr (.iload_n 1), .inr (.lload_n 2), .inr .l2i, .inr .i2b, .inr .i2l, .inr .lastore], .inr (.inr (0, 8, 0))),
  (53, [.inr (.aload_n 0), .inr (.invokeinterface 2 0), .inr (.iload_n 1), .inr (.lload_n 2), .inr .l2i, .inr .i2s, .inr .i2l, .inr .lastore], .inr (.inr (0, 8, 0))),
  (66, [.inr (.aload_n 0), .inr (.invokeinterface 2 0), .inr (.iload_n 1), .inr (.lload_n 2), .inr .l2i, .inr .i2l, .inr .lastore], .inr (.inr (0, 8, 0))),
  (78, [.inr (.aload_n 0), .inr (.invokeinterface 2 0), .inr (.iload_n 1), .inr (.lload_n 2), .inr .lastore], .inr (.inr (0, 8, 1))),
  (85, [], .inr (.inr (2, 0, 0)))]
def zp_R_areDepths : List zB := [(0, [.inl (.int 0), .inr (.istore_n 3)], .inr (.inr (0, 1, 1))),
  (2, [.inr (.iload_n 3), .inr (.iload_n 2)], .inl (.ge, true, 6, 2)),
  (7, [.inr (.aload_n 0), .inr (.invokeinterface 2 0), .inr (.iload_n 1), .inr (.iload_n 3), .inr .iadd, .inr .laload, .inl (.long 0), .inr .lcmp], .inl (.lt, false, 4, 3)),
  (20, [.inr (.aload_n 0), .inr (.invokeinterface 2 0), .inr (.iload_n 1), .inr (.iload_n 3), .inr .iadd, .inr .laload, .inl (.long 9), .inr .lcmp], .inl (.le, false, 5, 4)),
  (35, [.inl (.int 0)], .inr (.inr (2, 3, 0))),
  (37, [.inr (.iinc 3 1)], .inr (.inr (0, 1, 0))),
  (43, [.inl (.int 1)], .inr (.inr (2, 3, 0)))]
def zp_T_add : List zB := [(0, [.inr (.aload_n 0), .inr (.invokeinterface 3 1), .inl (.int 160)], .inl (.lt, true, 2, 1)),
  (10, [.inl (.int (-3))], .inr (.inr (2, 1, 0))),
  (13, [.inr (.aload_n 0), .inr (.invokeinterface 3 0), .inr (.aload_n 0), .inr (.invokeinterface 3 1), .inr (.iload_n 1), .inr .castore, .inr (.aload_n 0), .inr .dup, .inr (.invokeinterface 3 1), .inl (.int 1), .inr .iadd, .inr (.multianewarray 3 1), .inr (.aload_n 0), .inr (.invokeinterface 3 1)], .inr (.inr (2, 1, 0)))]
def zp_T_wipe : List zB := [(0, [.inr (.aload_n 0), .inl (.int 0), .inr (.multianewarray 3 1)], .inr (.inr (2, 0, 0)))]
def zp_T_passBlanks : List zB := [(0, [.inr (.aload_n 0), .inr (.invokeinterface 3 2), .inr (.aload_n 0), .inr (.invokeinterface 3 1)], .inl (.ge, true, 3, 1)),
  (11, [.inr (.aload_n 0), .inr (.invokeinterface 3 0), .inr (.aload_n 0), .inr (.invokeinterface 3 2), .inr .caload, .inl (.int 32)], .inl (.ne, true, 3, 2)),
  (25, [.inr (.aload_n 0), .inr .dup, .inr (.invokeinterface 3 2), .inl (.int 1), .inr .iadd, .inr (.multianewarray 3 2)], .inr (.inr (0, 0, 0))),
  (38, [], .inr (.inr (2, 0, 0)))]
def zp_T_isNext : List zB := [(0, [.inr (.aload_n 0)], .inr (.inr (1, 176, 1))),
  (4, [.inr (.aload_n 0), .inr (.invokeinterface 3 2), .inr (.aload_n 0), .inr (.invokeinterface 3 1)], .inl (.ge, true, 3, 2)),
  (15, [.inr (.aload_n 0), .inr (.invokeinterface 3 0), .inr (.aload_n 0), .inr (.invokeinterface 3 2), .inr .caload, .inr (.iload_n 1)], .inl (.eq, true, 4, 3)),
  (28, [.inl (.int 0)], .inr (.inr (2, 3, 0))),
  (30, [.inr (.aload_n 0), .inr .dup, .inr (.invokeinterface 3 2), .inl (.int 1), .inr .iadd, .inr (.multianewarray 3 2), .inl (.int 1)], .inr (.inr (2, 3, 0)))]
def zp_T_nextFigure : List zB := [(0, [.inr (.aload_n 0)], .inr (.inr (1, 176, 1))),
  (4, [.inr (.aload_n 0), .inr (.invokeinterface 3 2), .inr (.aload_n 0), .inr (.invokeinterface 3 1)], .inl (.ge, true, 4, 2)),
  (15, [.inr (.aload_n 0), .inr (.invokeinterface 3 0), .inr (.aload_n 0), .inr (.invokeinterface 3 2), .inr .caload, .inl (.int 48)], .inl (.lt, true, 4, 3)),
  (29, [.inr (.aload_n 0), .inr (.invokeinterface 3 0), .inr (.aload_n 0), .inr (.invokeinterface 3 2), .inr .caload, .inr (.iload_n 1)], .inl (.le, true, 5, 4)),
  (42, [.inl (.int (-1))], .inr (.inr (2, 1, 0))),
  (44, [.inr (.aload_n 0), .inr (.invokeinterface 3 0), .inr (.aload_n 0), .inr (.invokeinterface 3 2), .inr .caload, .inl (.int 48), .inr .isub, .inr (.istore_n 2), .inr (.aload_n 0), .inr .dup, .inr (.invokeinterface 3 2), .inl (.int 1), .inr .iadd, .inr (.multianewarray 3 2), .inr (.iload_n 2)], .inr (.inr (2, 1, 0)))]
def zp_T_fault : List zB := [(0, [.inl (.int (-20)), .inr (.aload_n 0), .inr (.invokeinterface 3 2), .inr .isub], .inr (.inr (2, 1, 0)))]
def zp_T_faultBehind : List zB := [(0, [.inr (.aload_n 0)], .inr (.inr (1, 176, 1))),
  (4, [.inr (.aload_n 0), .inr (.invokeinterface 3 2), .inr (.aload_n 0), .inr (.invokeinterface 3 1)], .inl (.ge, true, 4, 2)),
  (15, [.inr (.aload_n 0)], .inr (.inr (1, 179, 3))),
  (19, [], .inr (.inr (0, 5, 0))),
  (22, [.inl (.int 0)], .inr (.inr (0, 5, 1))),
  (23, [], .inr (.inr (2, 1, 0)))]
def zp_T_readGround : List zB := [(0, [.inr (.aload_n 0), .inl (.int 0), .inr (.multianewarray 3 2), .inr (.aload_n 0), .inl (.long 0), .inr (.multianewarray 3 4), .inl (.int 0), .inr (.istore_n 1)], .inr (.inr (0, 1, 1))),
  (12, [.inr (.iload_n 1), .inl (.int 36)], .inl (.ge, true, 17, 2)),
  (18, [.inr (.iload_n 1)], .inl (.le, false, 8, 3)),
  (22, [.inr (.iload_n 1), .inl (.int 6), .inr .irem], .inl (.ne, false, 8, 4)),
  (29, [.inr (.aload_n 0), .inl (.int 47)], .inr (.inr (1, 177, 5))),
  (35, [], .inl (.ne, false, 8, 6)),
  (38, [.inr (.aload_n 0)], .inr (.inr (1, 179, 7))),
  (42, [], .inr (.inr (2, 1, 0))),
  (43, [.inr (.aload_n 0), .inl (.int 57)], .inr (.inr (1, 178, 9))),
  (49, [.inr (.istore_n 2), .inr (.iload_n 2)], .inl (.ge, false, 12, 10)),
  (54, [.inr (.aload_n 0)], .inr (.inr (1, 179, 11))),
  (58, [], .inr (.inr (2, 1, 0))),
  (59, [.inr (.aload_n 0), .inr (.invokeinterface 3 3), .inr (.iload_n 1), .inr (.iload_n 2), .inr .iastore, .inr (.iload_n 2)], .inl (.le, false, 16, 13)),
  (70, [.inr (.aload_n 0), .inl (.int 94)], .inr (.inr (1, 177, 14))),
  (76, [], .inl (.eq, false, 16, 15)),
  (79, [.inr (.aload_n 0), .inr .dup, .inr (.invokeinterface 3 4), .inl (.long 1), .inr (.iload_n 1), .inr .lshl, .inr .lor, .inr (.multianewarray 3 4)], .inr (.inr (0, 16, 1))),
  (91, [.inr (.iinc 1 1)], .inr (.inr (0, 1, 0))),
  (97, [.inr (.aload_n 0)], .inr (.inr (1, 180, 18))),
  (101, [], .inr (.inr (2, 1, 0)))]
def zp_T_readOwners : List zB := [(0, [.inr (.aload_n 0), .inl (.int 0), .inr (.multianewarray 3 2), .inl (.int 0), .inr (.istore_n 1)], .inr (.inr (0, 1, 1))),
  (7, [.inr (.iload_n 1), .inl (.int 36)], .inl (.ge, true, 14, 2)),
  (13, [.inr (.iload_n 1)], .inl (.le, false, 6, 3)),
  (17, [.inr (.iload_n 1), .inl (.int 6), .inr .irem], .inl (.ne, false, 6, 4)),
  (24, [.inr (.aload_n 0), .inl (.int 47)], .inr (.inr (1, 177, 5))),
  (30, [.inr .pop], .inr (.inr (0, 6, 1))),
  (31, [.inr (.aload_n 0), .inl (.int 45)], .inr (.inr (1, 177, 7))),
  (37, [], .inl (.eq, false, 9, 8)),
  (40, [.inl (.int 4)], .inr (.inr (0, 10, 0))),
  (44, [.inr (.aload_n 0), .inl (.int 51)], .inr (.inr (1, 178, 10))),
  (50, [.inr (.istore_n 2), .inr (.iload_n 2)], .inl (.ge, false, 13, 11)),
  (55, [.inr (.aload_n 0)], .inr (.inr (1, 179, 12))),
  (59, [], .inr (.inr (2, 1, 0))),
  (60, [.inr (.aload_n 0), .inr (.invokeinterface 3 3), .inr (.iload_n 1), .inr (.iload_n 2), .inr .iastore, .inr (.iinc 1 1)], .inr (.inr (0, 1, 0))),
  (73, [.inr (.aload_n 0)], .inr (.inr (1, 180, 15))),
  (77, [], .inr (.inr (2, 1, 0)))]
def zp_T_readDay : List zB := [(0, [.inr (.aload_n 0), .inl (.int 0), .inr (.multianewarray 3 2), .inr (.aload_n 0), .inl (.int 0), .inr (.multianewarray 3 5), .inl (.int 0), .inr (.istore_n 1)], .inr (.inr (0, 1, 1))),
  (12, [.inr (.iload_n 1), .inl (.int 41)], .inl (.ge, true, 10, 2)),
  (18, [.inr (.aload_n 0)], .inr (.inr (1, 184, 3))),
  (22, [.inr (.istore_n 2), .inr (.iload_n 2)], .inl (.ge, false, 6, 4)),
  (27, [.inr (.aload_n 0)], .inr (.inr (1, 179, 5))),
  (31, [], .inr (.inr (2, 1, 0))),
  (32, [.inr (.aload_n 0), .inr (.invokeinterface 3 3), .inr (.iload_n 1), .inr (.iload_n 2), .inr .iastore, .inr (.aload_n 0), .inr .dup, .inr (.invokeinterface 3 5), .inl (.int 1), .inr .iadd, .inr (.multianewarray 3 5), .inr (.aload_n 0), .inl (.int 59)], .inr (.inr (1, 177, 7))),
  (55, [], .inl (.ne, false, 9, 8)),
  (58, [], .inr (.inr (0, 10, 0))),
  (61, [.inr (.iinc 1 1)], .inr (.inr (0, 1, 0))),
  (67, [.inr (.aload_n 0)], .inr (.inr (1, 180, 11))),
  (71, [], .inr (.inr (2, 1, 0)))]
def zp_T_nextRepair : List zB := [(0, [.inr (.aload_n 0), .inl (.int 100)], .inr (.inr (1, 177, 1))),
  (6, [], .inl (.eq, false, 3, 2)),
  (9, [.inl (.int 0)], .inr (.inr (0, 10, 0))),
  (13, [.inr (.aload_n 0), .inl (.int 102)], .inr (.inr (1, 177, 4))),
  (19, [], .inl (.eq, false, 6, 5)),
  (22, [.inl (.int 1)], .inr (.inr (0, 10, 0))),
  (26, [.inr (.aload_n 0), .inl (.int 114)], .inr (.inr (1, 177, 7))),
  (32, [], .inl (.eq, false, 9, 8)),
  (35, [.inl (.int 2)], .inr (.inr (0, 10, 0))),
  (39, [.inl (.int (-1))], .inr (.inr (0, 10, 1))),
  (40, [.inr (.istore_n 1), .inr (.iload_n 1)], .inl (.ge, false, 12, 11)),
  (45, [.inl (.int (-1))], .inr (.inr (2, 1, 0))),
  (47, [.inr (.aload_n 0), .inl (.int 53)], .inr (.inr (1, 178, 13))),
  (53, [.inr (.istore_n 2), .inr (.iload_n 2)], .inl (.ge, false, 15, 14)),
  (58, [.inl (.int (-1))], .inr (.inr (2, 1, 0))),
  (60, [.inr (.aload_n 0), .inl (.int 53)], .inr (.inr (1, 178, 16))),
  (66, [.inr (.istore_n 3), .inr (.iload_n 3)], .inl (.ge, false, 18, 17)),
  (71, [.inl (.int (-1))], .inr (.inr (0, 19, 0))),
  (75, [.inr (.iload_n 1), .inl (.int 36), .inr .imul, .inr (.iload_n 2), .inl (.int 6), .inr .imul, .inr .iadd, .inr (.iload_n 3), .inr .iadd], .inr (.inr (0, 19, 1))),
  (86, [], .inr (.inr (2, 1, 0)))]
def zp_J_bitCount : List zB := [(0, [.inr (.lload_n 0), .inr (.lload_n 0), .inl (.int 1), .inr .lushr, .inl (.long 6148914691236517205), .inr .land, .inr .lsub, .inr (.lstore_n 0), .inr (.lload_n 0), .inl (.long 3689348814741910323), .inr .land, .inr (.lload_n 0), .inl (.int 2), .inr .lushr, .inl (.long 3689348814741910323), .inr .land, .inr .ladd, .inr (.lstore_n 0), .inr (.lload_n 0), .inr (.lload_n 0), .inl (.int 4), .inr .lushr, .inr .ladd, .inl (.long 1085102592571150095), .inr .land, .inr (.lstore_n 0), .inr (.lload_n 0), .inr (.lload_n 0), .inl (.int 8), .inr .lushr, .inr .ladd, .inr (.lstore_n 0), .inr (.lload_n 0), .inr (.lload_n 0), .inl (.int 16), .inr .lushr, .inr .ladd, .inr (.lstore_n 0), .inr (.lload_n 0), .inr (.lload_n 0), .inl (.int 32), .inr .lushr, .inr .ladd, .inr (.lstore_n 0), .inr (.lload_n 0), .inr .l2i, .inl (.int 127), .inr .iand], .inr (.inr (2, 1, 0)))]
def zp_L_law_0 : List zB := [(18, [.inr (.iload_n 3), .inr (.aload_n 0), .inr .monitorenter, .inl (.int 6), .inr .isub], .inl (.gt, true, 151, 1)),
  (27, [.inr (.aload_n 0), .inr (.iload_n 3), .inr .faload, .inl (.int 63), .inr .iand], .inr (.inl ([(0, 2), (1, 6), (2, 10), (3, 14), (4, 18), (5, 22), (6, 26), (7, 30), (8, 34), (9, 38), (10, 42), (11, 46), (12, 50), (13, 54), (14, 58), (15, 62), (16, 66), (17, 70), (18, 74), (19, 78), (20, 82), (21, 86), (22, 90), (23, 94), (24, 98), (25, 102), (26, 106), (27, 110), (28, 114), (29, 118), (30, 122), (31, 126), (32, 130), (33, 134), (34, 138), (35, 142), (36, 146)], 150))),
  (196, [.inr (.aload_n 1), .inr (.aload_n 0), .inr (.iload_n 3), .inl (.int 1), .inr .iadd, .inr .faload], .inr (.inr (1, 0, 3))),
  (205, [.inr (.aload_n 2), .inr (.aload_n 0), .inr (.iload_n 3), .inl (.int 1), .inr .iadd, .inr .faload], .inr (.inr (1, 63, 4))),
  (214, [], .inl (.eq, true, 150, 5)),
  (217, [.inl (.int 0)], .inr (.inr (2, 3, 0)))]
def zp_L_law_1 : List zB := [(219, [.inr (.aload_n 1), .inr (.aload_n 0), .inr (.iload_n 3), .inl (.int 1), .inr .iadd, .inr .faload], .inr (.inr (1, 1, 7))),
  (228, [.inr (.aload_n 2), .inr (.aload_n 0), .inr (.iload_n 3), .inl (.int 1), .inr .iadd, .inr .faload], .inr (.inr (1, 64, 8))),
  (237, [], .inl (.eq, true, 150, 9)),
  (240, [.inl (.int 0)], .inr (.inr (2, 3, 0))),
  (242, [.inr (.aload_n 1), .inr (.aload_n 0), .inr (.iload_n 3), .inl (.int 1), .inr .iadd, .inr .faload], .inr (.inr (1, 2, 11))),
  (251, [.inr (.aload_n 2), .inr (.aload_n 0), .inr (.iload_n 3), .inl (.int 1), .inr .iadd, .inr .faload], .inr (.inr (1, 65, 12)))]
def zp_L_law_2 : List zB := [(260, [], .inl (.eq, true, 150, 13)),
  (263, [.inl (.int 0)], .inr (.inr (2, 3, 0))),
  (265, [.inr (.aload_n 1)], .inr (.inr (1, 3, 15))),
  (269, [.inr (.aload_n 2)], .inr (.inr (1, 66, 16))),
  (273, [], .inl (.eq, true, 150, 17)),
  (276, [.inl (.int 0)], .inr (.inr (2, 3, 0)))]
def zp_L_law_3 : List zB := [(278, [.inr (.aload_n 1), .inr (.aload_n 0), .inr (.iload_n 3), .inl (.int 1), .inr .iadd, .inr .faload, .inr (.aload_n 0), .inr (.iload_n 3), .inl (.int 2), .inr .iadd, .inr .faload], .inr (.inr (1, 4, 19))),
  (292, [.inr (.aload_n 2), .inr (.aload_n 0), .inr (.iload_n 3), .inl (.int 1), .inr .iadd, .inr .faload, .inr (.aload_n 0), .inr (.iload_n 3), .inl (.int 2), .inr .iadd, .inr .faload], .inr (.inr (1, 67, 20))),
  (306, [], .inl (.eq, true, 150, 21)),
  (309, [.inl (.int 0)], .inr (.inr (2, 3, 0))),
  (311, [.inr (.aload_n 1), .inr (.aload_n 0), .inr (.iload_n 3), .inl (.int 1), .inr .iadd, .inr .faload], .inr (.inr (1, 5, 23))),
  (320, [.inr (.aload_n 2), .inr (.aload_n 0), .inr (.iload_n 3), .inl (.int 1), .inr .iadd, .inr .faload], .inr (.inr (1, 68, 24)))]
def zp_L_law_4 : List zB := [(329, [], .inl (.eq, true, 150, 25)),
  (332, [.inl (.int 0)], .inr (.inr (2, 3, 0))),
  (334, [.inr (.aload_n 1), .inr (.aload_n 0), .inr (.iload_n 3), .inl (.int 1), .inr .iadd, .inr .faload, .inr (.aload_n 0), .inr (.iload_n 3), .inl (.int 2), .inr .iadd, .inr .faload], .inr (.inr (1, 6, 27))),
  (348, [.inr (.aload_n 2), .inr (.aload_n 0), .inr (.iload_n 3), .inl (.int 1), .inr .iadd, .inr .faload, .inr (.aload_n 0), .inr (.iload_n 3), .inl (.int 2), .inr .iadd, .inr .faload], .inr (.inr (1, 69, 28))),
  (362, [], .inl (.eq, true, 150, 29)),
  (365, [.inl (.int 0)], .inr (.inr (2, 3, 0)))]
def zp_L_law_5 : List zB := [(367, [.inr (.aload_n 1), .inr (.aload_n 0), .inr (.iload_n 3), .inl (.int 1), .inr .iadd, .inr .faload], .inr (.inr (1, 7, 31))),
  (376, [.inr (.aload_n 2), .inr (.aload_n 0), .inr (.iload_n 3), .inl (.int 1), .inr .iadd, .inr .faload], .inr (.inr (1, 70, 32))),
  (385, [], .inl (.eq, true, 150, 33)),
  (388, [.inl (.int 0)], .inr (.inr (2, 3, 0))),
  (390, [.inr (.aload_n 1)], .inr (.inr (1, 8, 35))),
  (394, [.inr (.aload_n 2)], .inr (.inr (1, 75, 36)))]
def zp_L_law_6 : List zB := [(398, [], .inl (.eq, true, 150, 37)),
  (401, [.inl (.int 0)], .inr (.inr (2, 3, 0))),
  (403, [.inr (.aload_n 1)], .inr (.inr (1, 9, 39))),
  (407, [.inr (.aload_n 2)], .inr (.inr (1, 77, 40))),
  (411, [], .inl (.eq, true, 150, 41)),
  (414, [.inl (.int 0)], .inr (.inr (2, 3, 0)))]
def zp_L_law_7 : List zB := [(416, [.inr (.aload_n 1)], .inr (.inr (1, 10, 43))),
  (420, [.inr (.aload_n 2)], .inr (.inr (1, 80, 44))),
  (424, [], .inl (.eq, true, 150, 45)),
  (427, [.inl (.int 0)], .inr (.inr (2, 3, 0))),
  (429, [.inr (.aload_n 1), .inr (.aload_n 0), .inr (.iload_n 3), .inl (.int 1), .inr .iadd, .inr .faload], .inr (.inr (1, 11, 47))),
  (438, [.inr (.aload_n 2), .inr (.aload_n 0), .inr (.iload_n 3), .inl (.int 1), .inr .iadd, .inr .faload], .inr (.inr (1, 81, 48)))]
def zp_L_law_8 : List zB := [(447, [], .inl (.eq, true, 150, 49)),
  (450, [.inl (.int 0)], .inr (.inr (2, 3, 0))),
  (452, [.inr (.aload_n 1), .inr (.aload_n 0), .inr (.iload_n 3), .inl (.int 1), .inr .iadd, .inr .faload, .inr (.aload_n 0), .inr (.iload_n 3), .inl (.int 2), .inr .iadd, .inr .faload], .inr (.inr (1, 12, 51))),
  (466, [.inr (.aload_n 2), .inr (.aload_n 0), .inr (.iload_n 3), .inl (.int 1), .inr .iadd, .inr .faload, .inr (.aload_n 0), .inr (.iload_n 3), .inl (.int 2), .inr .iadd, .inr .faload], .inr (.inr (1, 86, 52))),
  (480, [], .inl (.eq, true, 150, 53)),
  (483, [.inl (.int 0)], .inr (.inr (2, 3, 0)))]
def zp_L_law_9 : List zB := [(485, [.inr (.aload_n 1), .inr (.aload_n 0), .inr (.iload_n 3), .inl (.int 1), .inr .iadd, .inr .faload, .inr (.aload_n 0), .inr (.iload_n 3), .inl (.int 2), .inr .iadd, .inr .faload], .inr (.inr (1, 13, 55))),
  (499, [.inr (.aload_n 2), .inr (.aload_n 0), .inr (.iload_n 3), .inl (.int 1), .inr .iadd, .inr .faload, .inr (.aload_n 0), .inr (.iload_n 3), .inl (.int 2), .inr .iadd, .inr .faload], .inr (.inr (1, 87, 56))),
  (513, [.inr .lcmp], .inl (.eq, false, 150, 57)),
  (517, [.inl (.int 0)], .inr (.inr (2, 3, 0))),
  (519, [.inr (.aload_n 1), .inr (.aload_n 0), .inr (.iload_n 3), .inl (.int 1), .inr .iadd, .inr .faload, .inr (.aload_n 0), .inr (.iload_n 3), .inl (.int 2), .inr .iadd, .inr .faload], .inr (.inr (1, 14, 59))),
  (533, [.inr (.aload_n 2), .inr (.aload_n 0), .inr (.iload_n 3), .inl (.int 1), .inr .iadd, .inr .faload, .inr (.aload_n 0), .inr (.iload_n 3), .inl (.int 2), .inr .iadd, .inr .faload], .inr (.inr (1, 89, 60)))]
def zp_L_law_10 : List zB := [(547, [], .inl (.eq, true, 150, 61)),
  (550, [.inl (.int 0)], .inr (.inr (2, 3, 0))),
  (552, [.inr (.aload_n 1), .inr (.aload_n 0), .inr (.iload_n 3), .inl (.int 1), .inr .iadd, .inr .faload], .inr (.inr (1, 15, 63))),
  (561, [.inr (.aload_n 2), .inr (.aload_n 0), .inr (.iload_n 3), .inl (.int 1), .inr .iadd, .inr .faload], .inr (.inr (1, 90, 64))),
  (570, [], .inl (.eq, true, 150, 65)),
  (573, [.inl (.int 0)], .inr (.inr (2, 3, 0)))]
def zp_L_law_11 : List zB := [(575, [.inr (.aload_n 1), .inr (.aload_n 0), .inr (.iload_n 3), .inl (.int 1), .inr .iadd, .inr .faload], .inr (.inr (1, 16, 67))),
  (584, [.inr (.aload_n 2), .inr (.aload_n 0), .inr (.iload_n 3), .inl (.int 1), .inr .iadd, .inr .faload], .inr (.inr (1, 91, 68))),
  (593, [], .inl (.eq, true, 150, 69)),
  (596, [.inl (.int 0)], .inr (.inr (2, 3, 0))),
  (598, [.inr (.aload_n 1), .inr (.aload_n 0), .inr (.iload_n 3), .inl (.int 1), .inr .iadd, .inr .faload, .inr (.aload_n 0), .inr (.iload_n 3), .inl (.int 2), .inr .iadd, .inr .faload], .inr (.inr (1, 17, 71))),
  (612, [.inr (.aload_n 2), .inr (.aload_n 0), .inr (.iload_n 3), .inl (.int 1), .inr .iadd, .inr .faload, .inr (.aload_n 0), .inr (.iload_n 3), .inl (.int 2), .inr .iadd, .inr .faload], .inr (.inr (1, 92, 72)))]
def zp_L_law_12 : List zB := [(626, [], .inl (.eq, true, 150, 73)),
  (629, [.inl (.int 0)], .inr (.inr (2, 3, 0))),
  (631, [.inr (.aload_n 1), .inr (.aload_n 0), .inr (.iload_n 3), .inl (.int 1), .inr .iadd, .inr .faload, .inr (.aload_n 0), .inr (.iload_n 3), .inl (.int 2), .inr .iadd, .inr .faload], .inr (.inr (1, 18, 75))),
  (645, [.inr (.aload_n 2), .inr (.aload_n 0), .inr (.iload_n 3), .inl (.int 1), .inr .iadd, .inr .faload, .inr (.aload_n 0), .inr (.iload_n 3), .inl (.int 2), .inr .iadd, .inr .faload], .inr (.inr (1, 95, 76))),
  (659, [], .inl (.eq, true, 150, 77)),
  (662, [.inl (.int 0)], .inr (.inr (2, 3, 0)))]
def zp_L_law_13 : List zB := [(664, [.inr (.aload_n 1), .inr (.aload_n 0), .inr (.iload_n 3), .inl (.int 1), .inr .iadd, .inr .faload, .inr (.aload_n 0), .inr (.iload_n 3), .inl (.int 2), .inr .iadd, .inr .faload, .inr (.aload_n 0), .inr (.iload_n 3), .inl (.int 3), .inr .iadd, .inr .faload], .inr (.inr (1, 19, 79))),
  (683, [.inr (.aload_n 2), .inr (.aload_n 0), .inr (.iload_n 3), .inl (.int 1), .inr .iadd, .inr .faload, .inr (.aload_n 0), .inr (.iload_n 3), .inl (.int 2), .inr .iadd, .inr .faload, .inr (.aload_n 0), .inr (.iload_n 3), .inl (.int 3), .inr .iadd, .inr .faload], .inr (.inr (1, 97, 80))),
  (702, [], .inl (.eq, true, 150, 81)),
  (705, [.inl (.int 0)], .inr (.inr (2, 3, 0))),
  (707, [.inr (.aload_n 1)], .inr (.inr (1, 20, 83))),
  (711, [.inr (.aload_n 2)], .inr (.inr (1, 98, 84)))]
def zp_L_law_14 : List zB := [(715, [], .inl (.eq, true, 150, 85)),
  (718, [.inl (.int 0)], .inr (.inr (2, 3, 0))),
  (720, [.inr (.aload_n 1), .inr (.aload_n 0), .inr (.iload_n 3), .inl (.int 1), .inr .iadd, .inr .faload], .inr (.inr (1, 21, 87))),
  (729, [.inr (.aload_n 2), .inr (.aload_n 0), .inr (.iload_n 3), .inl (.int 1), .inr .iadd, .inr .faload], .inr (.inr (1, 99, 88))),
  (738, [], .inl (.eq, true, 150, 89)),
  (741, [.inl (.int 0)], .inr (.inr (2, 3, 0)))]
def zp_L_law_15 : List zB := [(743, [.inr (.aload_n 1), .inr (.aload_n 0), .inr (.iload_n 3), .inl (.int 1), .inr .iadd, .inr .faload, .inr (.aload_n 0), .inr (.iload_n 3), .inl (.int 2), .inr .iadd, .inr .faload], .inr (.inr (1, 22, 91))),
  (757, [.inr (.aload_n 2), .inr (.aload_n 0), .inr (.iload_n 3), .inl (.int 1), .inr .iadd, .inr .faload, .inr (.aload_n 0), .inr (.iload_n 3), .inl (.int 2), .inr .iadd, .inr .faload], .inr (.inr (1, 105, 92))),
  (771, [], .inl (.eq, true, 150, 93)),
  (774, [.inl (.int 0)], .inr (.inr (2, 3, 0))),
  (776, [.inr (.aload_n 1), .inr (.aload_n 0), .inr (.iload_n 3), .inl (.int 1), .inr .iadd, .inr .faload], .inr (.inr (1, 23, 95))),
  (785, [.inr (.aload_n 2), .inr (.aload_n 0), .inr (.iload_n 3), .inl (.int 1), .inr .iadd, .inr .faload], .inr (.inr (1, 106, 96)))]
def zp_L_law_16 : List zB := [(794, [], .inl (.eq, true, 150, 97)),
  (797, [.inl (.int 0)], .inr (.inr (2, 3, 0))),
  (799, [.inr (.aload_n 1), .inr (.aload_n 0), .inr (.iload_n 3), .inl (.int 1), .inr .iadd, .inr .faload], .inr (.inr (1, 24, 99))),
  (808, [.inr (.aload_n 2), .inr (.aload_n 0), .inr (.iload_n 3), .inl (.int 1), .inr .iadd, .inr .faload], .inr (.inr (1, 107, 100))),
  (817, [], .inl (.eq, true, 150, 101)),
  (820, [.inl (.int 0)], .inr (.inr (2, 3, 0)))]
def zp_L_law_17 : List zB := [(822, [.inr (.aload_n 1), .inr (.aload_n 0), .inr (.iload_n 3), .inl (.int 1), .inr .iadd, .inr .faload, .inr .i2l, .inl (.int 32), .inr .lshl, .inr (.aload_n 0), .inr (.iload_n 3), .inl (.int 2), .inr .iadd, .inr .faload, .inr .i2l, .inl (.long 4294967295), .inr .land, .inr .lor, .inr (.aload_n 0), .inr (.iload_n 3), .inl (.int 3), .inr .iadd, .inr .faload, .inr (.aload_n 0), .inr (.iload_n 3), .inl (.int 4), .inr .iadd, .inr .faload, .inr (.aload_n 0), .inr (.iload_n 3), .inl (.int 5), .inr .iadd, .inr .faload], .inr (.inr (1, 25, 103))),
  (861, [.inr (.aload_n 2), .inr (.aload_n 0), .inr (.iload_n 3), .inl (.int 1), .inr .iadd, .inr .faload, .inr .i2l, .inl (.int 32), .inr .lshl, .inr (.aload_n 0), .inr (.iload_n 3), .inl (.int 2), .inr .iadd, .inr .faload, .inr .i2l, .inl (.long 4294967295), .inr .land, .inr .lor, .inr (.aload_n 0), .inr (.iload_n 3), .inl (.int 3), .inr .iadd, .inr .faload, .inr (.aload_n 0), .inr (.iload_n 3), .inl (.int 4), .inr .iadd, .inr .faload, .inr (.aload_n 0), .inr (.iload_n 3), .inl (.int 5), .inr .iadd, .inr .faload], .inr (.inr (1, 108, 104))),
  (900, [.inr .lcmp], .inl (.eq, false, 150, 105)),
  (904, [.inl (.int 0)], .inr (.inr (2, 3, 0))),
  (906, [.inr (.aload_n 1), .inr (.aload_n 0), .inr (.iload_n 3), .inl (.int 1), .inr .iadd, .inr .faload], .inr (.inr (1, 26, 107))),
  (915, [.inr (.aload_n 2), .inr (.aload_n 0), .inr (.iload_n 3), .inl (.int 1), .inr .iadd, .inr .faload], .inr (.inr (1, 110, 108)))]
def zp_L_law_18 : List zB := [(924, [], .inl (.eq, true, 150, 109)),
  (927, [.inl (.int 0)], .inr (.inr (2, 3, 0))),
  (929, [.inr (.aload_n 1), .inr (.aload_n 0), .inr (.iload_n 3), .inl (.int 1), .inr .iadd, .inr .faload], .inr (.inr (1, 27, 111))),
  (938, [.inr (.aload_n 2), .inr (.aload_n 0), .inr (.iload_n 3), .inl (.int 1), .inr .iadd, .inr .faload], .inr (.inr (1, 111, 112))),
  (947, [], .inl (.eq, true, 150, 113)),
  (950, [.inl (.int 0)], .inr (.inr (2, 3, 0)))]
def zp_L_law_19 : List zB := [(952, [.inr (.aload_n 1)], .inr (.inr (1, 28, 115))),
  (956, [.inr (.aload_n 2)], .inr (.inr (1, 113, 116))),
  (960, [], .inl (.eq, true, 150, 117)),
  (963, [.inl (.int 0)], .inr (.inr (2, 3, 0))),
  (965, [.inr (.aload_n 1)], .inr (.inr (1, 29, 119))),
  (969, [.inr (.aload_n 2)], .inr (.inr (1, 114, 120)))]
def zp_L_law_20 : List zB := [(973, [], .inl (.eq, true, 150, 121)),
  (976, [.inl (.int 0)], .inr (.inr (2, 3, 0))),
  (978, [.inr (.aload_n 1), .inr (.aload_n 0), .inr (.iload_n 3), .inl (.int 1), .inr .iadd, .inr .faload, .inr (.aload_n 0), .inr (.iload_n 3), .inl (.int 2), .inr .iadd, .inr .faload, .inr (.aload_n 0), .inr (.iload_n 3), .inl (.int 3), .inr .iadd, .inr .faload, .inr (.aload_n 0), .inr (.iload_n 3), .inl (.int 4), .inr .iadd, .inr .faload, .inr (.aload_n 0), .inr (.iload_n 3), .inl (.int 5), .inr .iadd, .inr .faload], .inr (.inr (1, 30, 123))),
  (1007, [.inr (.aload_n 2), .inr (.aload_n 0), .inr (.iload_n 3), .inl (.int 1), .inr .iadd, .inr .faload, .inr (.aload_n 0), .inr (.iload_n 3), .inl (.int 2), .inr .iadd, .inr .faload, .inr (.aload_n 0), .inr (.iload_n 3), .inl (.int 3), .inr .iadd, .inr .faload, .inr (.aload_n 0), .inr (.iload_n 3), .inl (.int 4), .inr .iadd, .inr .faload, .inr (.aload_n 0), .inr (.iload_n 3), .inl (.int 5), .inr .iadd, .inr .faload], .inr (.inr (1, 121, 124))),
  (1036, [], .inl (.eq, true, 150, 125)),
  (1039, [.inl (.int 0)], .inr (.inr (2, 3, 0)))]
def zp_L_law_21 : List zB := [(1041, [.inr (.aload_n 1), .inr (.aload_n 0), .inr (.iload_n 3), .inl (.int 1), .inr .iadd, .inr .faload, .inr (.aload_n 0), .inr (.iload_n 3), .inl (.int 2), .inr .iadd, .inr .faload, .inr (.aload_n 0), .inr (.iload_n 3), .inl (.int 3), .inr .iadd, .inr .faload], .inr (.inr (1, 31, 127))),
  (1060, [.inr (.aload_n 2), .inr (.aload_n 0), .inr (.iload_n 3), .inl (.int 1), .inr .iadd, .inr .faload, .inr (.aload_n 0), .inr (.iload_n 3), .inl (.int 2), .inr .iadd, .inr .faload, .inr (.aload_n 0), .inr (.iload_n 3), .inl (.int 3), .inr .iadd, .inr .faload], .inr (.inr (1, 122, 128))),
  (1079, [], .inl (.eq, true, 150, 129)),
  (1082, [.inl (.int 0)], .inr (.inr (2, 3, 0))),
  (1084, [.inr (.aload_n 1), .inr (.aload_n 0), .inr (.iload_n 3), .inl (.int 1), .inr .iadd, .inr .faload, .inr (.aload_n 0), .inr (.iload_n 3), .inl (.int 2), .inr .iadd, .inr .faload, .inr (.aload_n 0), .inr (.iload_n 3), .inl (.int 3), .inr .iadd, .inr .faload, .inr (.aload_n 0), .inr (.iload_n 3), .inl (.int 4), .inr .iadd, .inr .faload], .inr (.inr (1, 32, 131))),
  (1108, [.inr (.aload_n 2), .inr (.aload_n 0), .inr (.iload_n 3), .inl (.int 1), .inr .iadd, .inr .faload, .inr (.aload_n 0), .inr (.iload_n 3), .inl (.int 2), .inr .iadd, .inr .faload, .inr (.aload_n 0), .inr (.iload_n 3), .inl (.int 3), .inr .iadd, .inr .faload, .inr (.aload_n 0), .inr (.iload_n 3), .inl (.int 4), .inr .iadd, .inr .faload], .inr (.inr (1, 123, 132)))]
def zp_L_law_22 : List zB := [(1132, [], .inl (.eq, true, 150, 133)),
  (1135, [.inl (.int 0)], .inr (.inr (2, 3, 0))),
  (1137, [.inr (.aload_n 1), .inr (.aload_n 0), .inr (.iload_n 3), .inl (.int 1), .inr .iadd, .inr .faload, .inr (.aload_n 0), .inr (.iload_n 3), .inl (.int 2), .inr .iadd, .inr .faload, .inr (.aload_n 0), .inr (.iload_n 3), .inl (.int 3), .inr .iadd, .inr .faload], .inr (.inr (1, 33, 135))),
  (1156, [.inr (.aload_n 2), .inr (.aload_n 0), .inr (.iload_n 3), .inl (.int 1), .inr .iadd, .inr .faload, .inr (.aload_n 0), .inr (.iload_n 3), .inl (.int 2), .inr .iadd, .inr .faload, .inr (.aload_n 0), .inr (.iload_n 3), .inl (.int 3), .inr .iadd, .inr .faload], .inr (.inr (1, 117, 136))),
  (1175, [], .inl (.eq, true, 150, 137)),
  (1178, [.inl (.int 0)], .inr (.inr (2, 3, 0)))]
def zp_L_law_23 : List zB := [(1180, [.inr (.aload_n 1), .inr (.aload_n 0), .inr (.iload_n 3), .inl (.int 1), .inr .iadd, .inr .faload], .inr (.inr (1, 34, 139))),
  (1189, [.inr (.aload_n 2), .inr (.aload_n 0), .inr (.iload_n 3), .inl (.int 1), .inr .iadd, .inr .faload], .inr (.inr (1, 118, 140))),
  (1198, [], .inl (.eq, true, 150, 141)),
  (1201, [.inl (.int 0)], .inr (.inr (2, 3, 0))),
  (1203, [.inr (.aload_n 1), .inr (.aload_n 0), .inr (.iload_n 3), .inl (.int 1), .inr .iadd, .inr .faload, .inr (.aload_n 0), .inr (.iload_n 3), .inl (.int 2), .inr .iadd, .inr .faload, .inr (.aload_n 0), .inr (.iload_n 3), .inl (.int 3), .inr .iadd, .inr .faload, .inr (.aload_n 0), .inr (.iload_n 3), .inl (.int 4), .inr .iadd, .inr .faload, .inr .i2l, .inl (.int 32), .inr .lshl, .inr (.aload_n 0), .inr (.iload_n 3), .inl (.int 5), .inr .iadd, .inr .faload, .inr .i2l, .inl (.long 4294967295), .inr .land, .inr .lor], .inr (.inr (1, 35, 143))),
  (1242, [.inr (.aload_n 2), .inr (.aload_n 0), .inr (.iload_n 3), .inl (.int 1), .inr .iadd, .inr .faload, .inr (.aload_n 0), .inr (.iload_n 3), .inl (.int 2), .inr .iadd, .inr .faload, .inr (.aload_n 0), .inr (.iload_n 3), .inl (.int 3), .inr .iadd, .inr .faload, .inr (.aload_n 0), .inr (.iload_n 3), .inl (.int 4), .inr .iadd, .inr .faload, .inr .i2l, .inl (.int 32), .inr .lshl, .inr (.aload_n 0), .inr (.iload_n 3), .inl (.int 5), .inr .iadd, .inr .faload, .inr .i2l, .inl (.long 4294967295), .inr .land, .inr .lor], .inr (.inr (1, 120, 144)))]
def zp_L_law_24 : List zB := [(1281, [], .inl (.eq, true, 150, 145)),
  (1284, [.inl (.int 0)], .inr (.inr (2, 3, 0))),
  (1286, [.inr (.aload_n 1), .inr (.aload_n 0), .inr (.iload_n 3), .inl (.int 1), .inr .iadd, .inr .faload, .inr (.aload_n 0), .inr (.iload_n 3), .inl (.int 2), .inr .iadd, .inr .faload, .inr (.aload_n 0), .inr (.iload_n 3), .inl (.int 3), .inr .iadd, .inr .faload, .inr (.aload_n 0), .inr (.iload_n 3), .inl (.int 4), .inr .iadd, .inr .faload, .inr (.aload_n 0), .inr (.iload_n 3), .inl (.int 5), .inr .iadd, .inr .faload], .inr (.inr (1, 36, 147))),
  (1315, [.inr (.aload_n 2), .inr (.aload_n 0), .inr (.iload_n 3), .inl (.int 1), .inr .iadd, .inr .faload, .inr (.aload_n 0), .inr (.iload_n 3), .inl (.int 2), .inr .iadd, .inr .faload, .inr (.aload_n 0), .inr (.iload_n 3), .inl (.int 3), .inr .iadd, .inr .faload, .inr (.aload_n 0), .inr (.iload_n 3), .inl (.int 4), .inr .iadd, .inr .faload, .inr (.aload_n 0), .inr (.iload_n 3), .inl (.int 5), .inr .iadd, .inr .faload], .inr (.inr (1, 124, 148))),
  (1344, [], .inl (.eq, true, 150, 149)),
  (1347, [.inl (.int 0)], .inr (.inr (2, 3, 0)))]
def zp_L_law_25 : List zB := [(1349, [.inr (.iinc 3 6)], .inr (.inr (0, 0, 0))),
  (1355, [.inl (.int 1)], .inr (.inr (2, 3, 0)))]
def zp_L_law : List zB := zp_L_law_0 ++ (zp_L_law_1 ++ (zp_L_law_2 ++ (zp_L_law_3 ++ (zp_L_law_4 ++ (zp_L_law_5 ++ (zp_L_law_6 ++ (zp_L_law_7 ++ (zp_L_law_8 ++ (zp_L_law_9 ++ (zp_L_law_10 ++ (zp_L_law_11 ++ (zp_L_law_12 ++ (zp_L_law_13 ++ (zp_L_law_14 ++ (zp_L_law_15 ++ (zp_L_law_16 ++ (zp_L_law_17 ++ (zp_L_law_18 ++ (zp_L_law_19 ++ (zp_L_law_20 ++ (zp_L_law_21 ++ (zp_L_law_22 ++ (zp_L_law_23 ++ (zp_L_law_24 ++ (zp_L_law_25)))))))))))))))))))))))))
def zpc_L_law : List Nat := [18, 27, 196, 205, 214, 217, 219, 228, 237, 240, 242, 251, 260, 263, 265, 269, 273, 276, 278, 292, 306, 309, 311, 320, 329, 332, 334, 348, 362, 365, 367, 376, 385, 388, 390, 394, 398, 401, 403, 407, 411, 414, 416, 420, 424, 427, 429, 438, 447, 450, 452, 466, 480, 483, 485, 499, 513, 517, 519, 533, 547, 550, 552, 561, 570, 573, 575, 584, 593, 596, 598, 612, 626, 629, 631, 645, 659, 662, 664, 683, 702, 705, 707, 711, 715, 718, 720, 729, 738, 741, 743, 757, 771, 774, 776, 785, 794, 797, 799, 808, 817, 820, 822, 861, 900, 904, 906, 915, 924, 927, 929, 938, 947, 950, 952, 956, 960, 963, 965, 969, 973, 976, 978, 1007, 1036, 1039, 1041, 1060, 1079, 1082, 1084, 1108, 1132, 1135, 1137, 1156, 1175, 1178, 1180, 1189, 1198, 1201, 1203, 1242, 1281, 1284, 1286, 1315, 1344, 1347, 1349, 1355]
def zPG_0 : List (List zB) := [zp_C_dig, zp_C_fill, zp_C_roof, zp_C_undo, zp_C_own, zp_C_rate, zp_C_told, zp_C_type, zp_C_ground, zp_C_owners, zp_C_day, zp_C_count, zp_C_hole, zp_C_cells, zp_C_part, zp_C_pays, zp_C_worth, zp_C_filled, zp_C_split, zp_C_dug]
def zPG_1 : List (List zB) := [zp_C_loophole, zp_C_roofs, zp_C_round, zp_C_border, zp_C_cut, zp_C_books, zp_C_lots, zp_C_seed, zp_C_image, zp_C_restore, zp_C_lay, zp_C_film, zp_C_miscounted, zp_C_sheet, zp_C_drop, zp_C_item, zp_C_copy, zp_C_isCell, zp_C_isOwner, zp_C_isSheet]
def zPG_2 : List (List zB) := [zp_C_isLane, zp_C_refusal, zp_C_isRight, zp_C_pick, zp_N_in, zp_N_isCell, zp_N_has, zp_N_ones, zp_N_least, zp_N_look, zp_N_beside, zp_N_grown, zp_N_holeAt, zp_N_rimOf, zp_N_fenceOf, zp_N_edge, zp_N_withinOf, zp_N_kindOf, zp_N_taxOf, zp_N_findHoles]
def zPG_3 : List (List zB) := [zp_N_taxOfAll, zp_N_note, zp_N_put, zp_N_dig, zp_N_fill, zp_N_roof, zp_N_undo, zp_N_own, zp_N_rate, zp_N_told, zp_N_type, zp_N_nextLetter, zp_N_takes, zp_N_end, zp_N_readGround, zp_N_ground, zp_N_readOwners, zp_N_owners, zp_N_readAct, zp_N_readDay]
def zPG_4 : List (List zB) := [zp_N_day, zp_N_count, zp_N_owned, zp_N_ownerOf, zp_N_nestedOf, zp_N_largestOf, zp_N_hole, zp_N_cells, zp_N_partOf, zp_N_part, zp_N_pays, zp_N_worth, zp_N_filled, zp_N_fewestFilled, zp_N_does, zp_N_split, zp_N_fewestDug, zp_N_dug, zp_N_loophole, zp_N_roofs]
def zPG_5 : List (List zB) := [zp_N_nextOrder, zp_N_off, zp_N_apart, zp_N_nearest, zp_N_stepsOf, zp_N_round, zp_N_border, zp_N_cut, zp_N_books, zp_N_nextDraw, zp_N_lots, zp_N_seed, zp_N_carried, zp_N_image, zp_N_restore, zp_N_isSheet, zp_N_asLane, zp_N_sheet, zp_N_drop, zp_N_lacksRow]
def zPG_6 : List (List zB) := [zp_N_item, zp_N_lay, zp_N_film, zp_N_miscounted, zp_N_copy, zp_G_takeAll, zp_G_put, zp_G_become, zp_G_toDig, zp_G_toFill, zp_G_toRoof, zp_G_repaired, zp_G_remember, zp_G_forget, zp_G_takeBack, zp_G_drawn, zp_G_yearByLot, zp_G_depths, zp_G_holeAt, zp_G_kindOf]
def zPG_7 : List (List zB) := [zp_G_taxOf, zp_G_taxOfAll, zp_G_landOf, zp_G_ownerOf, zp_G_partOf, zp_G_partOfAll, zp_G_leastFilled, zp_G_fits, zp_M_walk, zp_M_measure, zp_M_nearestOf, zp_M_steps, zp_M_seek, zp_P_has, zp_P_least, zp_P_beside, zp_P_spread, zp_P_firstHole, zp_P_holesOf, zp_P_rimOf]
def zPG_8 : List (List zB) := [zp_P_fenceOf, zp_P_withinOf, zp_P_nestedIn, zp_P_broadestIn, zp_P_mostCells, zp_P_leastCut, zp_P_isInPieces, zp_P_leastSplit, zp_P_gapBetween, zp_P_leastDug, zp_R_begin, zp_R_spans, zp_R_put, zp_R_areDepths, zp_T_add, zp_T_wipe, zp_T_passBlanks, zp_T_isNext, zp_T_nextFigure, zp_T_fault]
def zPG_9 : List (List zB) := [zp_T_faultBehind, zp_T_readGround, zp_T_readOwners, zp_T_readDay, zp_T_nextRepair, zp_J_bitCount, zp_L_law]
def zPG : List (List zB) := zPG_0 ++ (zPG_1 ++ (zPG_2 ++ (zPG_3 ++ (zPG_4 ++ (zPG_5 ++ (zPG_6 ++ (zPG_7 ++ (zPG_8 ++ (zPG_9)))))))))
/-- a method by its number -/
abbrev m_C_dig : Nat := 0
abbrev m_C_fill : Nat := 1
abbrev m_C_roof : Nat := 2
abbrev m_C_undo : Nat := 3
abbrev m_C_own : Nat := 4
abbrev m_C_rate : Nat := 5
abbrev m_C_told : Nat := 6
abbrev m_C_type : Nat := 7
abbrev m_C_ground : Nat := 8
abbrev m_C_owners : Nat := 9
abbrev m_C_day : Nat := 10
abbrev m_C_count : Nat := 11
abbrev m_C_hole : Nat := 12
abbrev m_C_cells : Nat := 13
abbrev m_C_part : Nat := 14
abbrev m_C_pays : Nat := 15
abbrev m_C_worth : Nat := 16
abbrev m_C_filled : Nat := 17
abbrev m_C_split : Nat := 18
abbrev m_C_dug : Nat := 19
abbrev m_C_loophole : Nat := 20
abbrev m_C_roofs : Nat := 21
abbrev m_C_round : Nat := 22
abbrev m_C_border : Nat := 23
abbrev m_C_cut : Nat := 24
abbrev m_C_books : Nat := 25
abbrev m_C_lots : Nat := 26
abbrev m_C_seed : Nat := 27
abbrev m_C_image : Nat := 28
abbrev m_C_restore : Nat := 29
abbrev m_C_lay : Nat := 30
abbrev m_C_film : Nat := 31
abbrev m_C_miscounted : Nat := 32
abbrev m_C_sheet : Nat := 33
abbrev m_C_drop : Nat := 34
abbrev m_C_item : Nat := 35
abbrev m_C_copy : Nat := 36
abbrev m_C_isCell : Nat := 37
abbrev m_C_isOwner : Nat := 38
abbrev m_C_isSheet : Nat := 39
abbrev m_C_isLane : Nat := 40
abbrev m_C_refusal : Nat := 41
abbrev m_C_isRight : Nat := 42
abbrev m_C_pick : Nat := 43
abbrev m_N_in : Nat := 44
abbrev m_N_isCell : Nat := 45
abbrev m_N_has : Nat := 46
abbrev m_N_ones : Nat := 47
abbrev m_N_least : Nat := 48
abbrev m_N_look : Nat := 49
abbrev m_N_beside : Nat := 50
abbrev m_N_grown : Nat := 51
abbrev m_N_holeAt : Nat := 52
abbrev m_N_rimOf : Nat := 53
abbrev m_N_fenceOf : Nat := 54
abbrev m_N_edge : Nat := 55
abbrev m_N_withinOf : Nat := 56
abbrev m_N_kindOf : Nat := 57
abbrev m_N_taxOf : Nat := 58
abbrev m_N_findHoles : Nat := 59
abbrev m_N_taxOfAll : Nat := 60
abbrev m_N_note : Nat := 61
abbrev m_N_put : Nat := 62
abbrev m_N_dig : Nat := 63
abbrev m_N_fill : Nat := 64
abbrev m_N_roof : Nat := 65
abbrev m_N_undo : Nat := 66
abbrev m_N_own : Nat := 67
abbrev m_N_rate : Nat := 68
abbrev m_N_told : Nat := 69
abbrev m_N_type : Nat := 70
abbrev m_N_nextLetter : Nat := 71
abbrev m_N_takes : Nat := 72
abbrev m_N_end : Nat := 73
abbrev m_N_readGround : Nat := 74
abbrev m_N_ground : Nat := 75
abbrev m_N_readOwners : Nat := 76
abbrev m_N_owners : Nat := 77
abbrev m_N_readAct : Nat := 78
abbrev m_N_readDay : Nat := 79
abbrev m_N_day : Nat := 80
abbrev m_N_count : Nat := 81
abbrev m_N_owned : Nat := 82
abbrev m_N_ownerOf : Nat := 83
abbrev m_N_nestedOf : Nat := 84
abbrev m_N_largestOf : Nat := 85
abbrev m_N_hole : Nat := 86
abbrev m_N_cells : Nat := 87
abbrev m_N_partOf : Nat := 88
abbrev m_N_part : Nat := 89
abbrev m_N_pays : Nat := 90
abbrev m_N_worth : Nat := 91
abbrev m_N_filled : Nat := 92
abbrev m_N_fewestFilled : Nat := 93
abbrev m_N_does : Nat := 94
abbrev m_N_split : Nat := 95
abbrev m_N_fewestDug : Nat := 96
abbrev m_N_dug : Nat := 97
abbrev m_N_loophole : Nat := 98
abbrev m_N_roofs : Nat := 99
abbrev m_N_nextOrder : Nat := 100
abbrev m_N_off : Nat := 101
abbrev m_N_apart : Nat := 102
abbrev m_N_nearest : Nat := 103
abbrev m_N_stepsOf : Nat := 104
abbrev m_N_round : Nat := 105
abbrev m_N_border : Nat := 106
abbrev m_N_cut : Nat := 107
abbrev m_N_books : Nat := 108
abbrev m_N_nextDraw : Nat := 109
abbrev m_N_lots : Nat := 110
abbrev m_N_seed : Nat := 111
abbrev m_N_carried : Nat := 112
abbrev m_N_image : Nat := 113
abbrev m_N_restore : Nat := 114
abbrev m_N_isSheet : Nat := 115
abbrev m_N_asLane : Nat := 116
abbrev m_N_sheet : Nat := 117
abbrev m_N_drop : Nat := 118
abbrev m_N_lacksRow : Nat := 119
abbrev m_N_item : Nat := 120
abbrev m_N_lay : Nat := 121
abbrev m_N_film : Nat := 122
abbrev m_N_miscounted : Nat := 123
abbrev m_N_copy : Nat := 124
abbrev m_G_takeAll : Nat := 125
abbrev m_G_put : Nat := 126
abbrev m_G_become : Nat := 127
abbrev m_G_toDig : Nat := 128
abbrev m_G_toFill : Nat := 129
abbrev m_G_toRoof : Nat := 130
abbrev m_G_repaired : Nat := 131
abbrev m_G_remember : Nat := 132
abbrev m_G_forget : Nat := 133
abbrev m_G_takeBack : Nat := 134
abbrev m_G_drawn : Nat := 135
abbrev m_G_yearByLot : Nat := 136
abbrev m_G_depths : Nat := 137
abbrev m_G_holeAt : Nat := 138
abbrev m_G_kindOf : Nat := 139
abbrev m_G_taxOf : Nat := 140
abbrev m_G_taxOfAll : Nat := 141
abbrev m_G_landOf : Nat := 142
abbrev m_G_ownerOf : Nat := 143
abbrev m_G_partOf : Nat := 144
abbrev m_G_partOfAll : Nat := 145
abbrev m_G_leastFilled : Nat := 146
abbrev m_G_fits : Nat := 147
abbrev m_M_walk : Nat := 148
abbrev m_M_measure : Nat := 149
abbrev m_M_nearestOf : Nat := 150
abbrev m_M_steps : Nat := 151
abbrev m_M_seek : Nat := 152
abbrev m_P_has : Nat := 153
abbrev m_P_least : Nat := 154
abbrev m_P_beside : Nat := 155
abbrev m_P_spread : Nat := 156
abbrev m_P_firstHole : Nat := 157
abbrev m_P_holesOf : Nat := 158
abbrev m_P_rimOf : Nat := 159
abbrev m_P_fenceOf : Nat := 160
abbrev m_P_withinOf : Nat := 161
abbrev m_P_nestedIn : Nat := 162
abbrev m_P_broadestIn : Nat := 163
abbrev m_P_mostCells : Nat := 164
abbrev m_P_leastCut : Nat := 165
abbrev m_P_isInPieces : Nat := 166
abbrev m_P_leastSplit : Nat := 167
abbrev m_P_gapBetween : Nat := 168
abbrev m_P_leastDug : Nat := 169
abbrev m_R_begin : Nat := 170
abbrev m_R_spans : Nat := 171
abbrev m_R_put : Nat := 172
abbrev m_R_areDepths : Nat := 173
abbrev m_T_add : Nat := 174
abbrev m_T_wipe : Nat := 175
abbrev m_T_passBlanks : Nat := 176
abbrev m_T_isNext : Nat := 177
abbrev m_T_nextFigure : Nat := 178
abbrev m_T_fault : Nat := 179
abbrev m_T_faultBehind : Nat := 180
abbrev m_T_readGround : Nat := 181
abbrev m_T_readOwners : Nat := 182
abbrev m_T_readDay : Nat := 183
abbrev m_T_nextRepair : Nat := 184
abbrev m_J_bitCount : Nat := 185
abbrev m_L_law : Nat := 186
