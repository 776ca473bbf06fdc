/-! ===== the abstract machine: worlds of fixed shape, blocks, weakest preconditions ===== -/
abbrev zW : Type := (Nat → Nat → Int32) × (Nat → Nat → Int64)
abbrev zL : Type := List (Option Value)
abbrev zA : Type := Value ⊕ Instr
abbrev zT : Type := (Jvm.ClassFile.Cond × Bool × Nat × Nat) ⊕ (List (Int32 × Nat) × Nat) ⊕ (Nat × Nat × Nat)
abbrev zB : Type := Nat × List zA × zT
abbrev zQ : Type := Option Value → zW → Prop
abbrev zI : Type := MethodName × ByteArray × Nat × Option FieldType × Nat × Bool × Nat
def gI (w : zW) (o k : Nat) : Int32 := w.1 o k
def gL (w : zW) (o k : Nat) : Int64 := w.2 o k
def sI (w : zW) (o k : Nat) (v : Int32) : zW := (fun a b => if a = o ∧ b = k then v else w.1 a b, w.2)
def sL (w : zW) (o k : Nat) (v : Int64) : zW := (w.1, fun a b => if a = o ∧ b = k then v else w.2 a b)
/-- arrays copied: ints, longs -/
def cI (w : zW) (o1 o2 sp dp n : Nat) : zW := (fun a b => if a = o2 then va_cpy (w.1 o1) (w.1 o2) sp dp n b else w.1 a b, w.2)
def cL (w : zW) (o1 o2 sp dp n : Nat) : zW := (w.1, fun a b => if a = o2 then va_cpy (w.2 o1) (w.2 o2) sp dp n b else w.2 a b)
/-- the objects: 0 county, 1 now, 2 kept, 3 tape, 4 rows, 5-8 rows' objects, 9 mole, 10 the reference, then their arrays (kind 0 int, 1 long, 2 char, 3 references), by length; 43 the script, 44 its length -/
def zshL : List (Nat ⊕ (Nat × Nat)) := [.inl 4, .inl 0, .inl 0, .inl 3, .inr (3, 4), .inl 2, .inl 2, .inl 2, .inl 2, .inl 1, .inl 5,
  .inr (0, 36), .inr (0, 36), .inr (0, 10), .inr (0, 36), .inr (0, 36), .inr (0, 10), .inr (2, 160), .inr (0, 41),
  .inr (1, 36), .inr (1, 36), .inr (1, 36), .inr (1, 36), .inr (1, 8), .inr (0, 8), .inr (0, 288), .inr (0, 8), .inr (0, 8),
  .inr (0, 36), .inr (0, 36), .inr (0, 30), .inr (1, 36), .inr (0, 160), .inr (0, 80), .inr (0, 10), .inr (0, 8), .inr (0, 8), .inr (0, 288), .inr (0, 106), .inr (0, 4), .inr (0, 4), .inr (1, 144), .inr (1, 36)]
def zis (o ci : Nat) : Prop := zshL[o]? = some (.inl ci)
def zar (o kd n : Nat) : Prop := zshL[o]? = some (.inr (kd, n))
def zln (o : Nat) : Nat := match zshL[o]? with
  | some (.inr q) => q.2
  | _ => 0
/-- kinds of fields: 0 int, 1 long, 2 boolean, 3 reference -/
def zfkL : List (List Nat) := [[3, 3, 1, 1, 1, 0, 0, 3, 0], [3, 3, 3, 3, 3, 0, 0], [3, 2, 0, 0], [3, 0, 0, 3, 1, 0], [3, 3, 2, 3, 3, 3], [3, 3, 1, 0, 3, 0, 0, 1, 1, 3, 0, 3, 0, 0, 0, 3, 3, 3, 3, 3, 2, 1, 3, 3, 3, 3, 3]]
def zfk (ci k : Nat) : Nat := (zfkL.getD ci []).getD k 9
def zrfL : List (List Nat) := [[1, 2, 0, 3, 4, 9], [11, 12, 0, 0, 0, 0, 0, 13], [14, 15, 0, 0, 0, 0, 0, 16], [17, 0, 0, 18], [], [19], [20], [21], [22], [23, 24, 25, 26, 27], [28, 29, 0, 0, 30, 0, 0, 0, 0, 31, 0, 32, 0, 0, 0, 33, 34, 35, 36, 37, 0, 0, 38, 39, 40, 41, 42]]
def zrf (o k : Nat) : Nat := (zrfL.getD o []).getD k 0
def zre (o j : Nat) : Nat := o + 1 + j
def zsl (x : Int64) (y : Int32) : Int64 := x <<< (y.toInt64 &&& 63)
def zsr (x : Int64) (y : Int32) : Int64 := x >>> (y.toInt64 &&& 63)
def zus (x : Int64) (y : Int32) : Int64 := (x.toUInt64 >>> (y.toInt64.toUInt64 &&& Int64.toUInt64 63)).toInt64
def zrm (x y : Int32) : Int32 := x - x / y * y
def zch (x : Int32) : Int32 := (x.toUInt32 % 65536).toInt32
def zii (f : Int32 → Int32 → Int32) (st : List Value) (k : List Value → Prop) : Prop := match st with
  | .int y :: .int x :: r => k (.int (f x y) :: r)
  | _ => False
def zid (f : Int32 → Int32 → Int32) (st : List Value) (k : List Value → Prop) : Prop := match st with
  | .int y :: .int x :: r => ¬ y = 0 ∧ k (.int (f x y) :: r)
  | _ => False
def zll (f : Int64 → Int64 → Value) (st : List Value) (k : List Value → Prop) : Prop := match st with
  | .long y :: .long x :: r => k (f x y :: r)
  | _ => False
def zls (f : Int64 → Int32 → Int64) (st : List Value) (k : List Value → Prop) : Prop := match st with
  | .int y :: .long x :: r => k (.long (f x y) :: r)
  | _ => False
def zui (f : Int32 → Value) (st : List Value) (k : List Value → Prop) : Prop := match st with
  | .int x :: r => k (f x :: r)
  | _ => False
def zul (f : Int64 → Value) (st : List Value) (k : List Value → Prop) : Prop := match st with
  | .long x :: r => k (f x :: r)
  | _ => False
def zldi (ls : zL) (i : Nat) (k : Value → Prop) : Prop := match ls[i]? with
  | some (some (.int x)) => k (.int x)
  | _ => False
def zldl (ls : zL) (i : Nat) (k : Value → Prop) : Prop := match ls[i]? with
  | some (some (.long x)) => k (.long x)
  | _ => False
def zlda (ls : zL) (i : Nat) (k : Value → Prop) : Prop := match ls[i]? with
  | some (some (.ref x)) => k (.ref x)
  | _ => False
/-- no long stands just ahead of place i -/
def zfree (ls : zL) (i : Nat) : Bool := match i with
  | 0 => true
  | j + 1 => match ls[j]? with
    | some (some (.long _)) => false
    | some (some (.double _)) => false
    | _ => true
def zs1 (ls : zL) (i : Nat) (v : Value) (k : zL → Prop) : Prop := match Nat.blt i ls.length && zfree ls i with
  | true => k (ls.set i (some v))
  | false => False
def zs2 (ls : zL) (i : Nat) (v : Value) (k : zL → Prop) : Prop := match Nat.blt (i + 1) ls.length && zfree ls i with
  | true => k ((ls.set i (some v)).set (i + 1) none)
  | false => False
def zsti (ls : zL) (i : Nat) (st : List Value) (k : zL → List Value → Prop) : Prop := match st with
  | .int x :: r => zs1 ls i (.int x) (fun l => k l r)
  | _ => False
def zstl (ls : zL) (i : Nat) (st : List Value) (k : zL → List Value → Prop) : Prop := match st with
  | .long x :: r => zs2 ls i (.long x) (fun l => k l r)
  | _ => False
def zsta (ls : zL) (i : Nat) (st : List Value) (k : zL → List Value → Prop) : Prop := match st with
  | .ref x :: r => zs1 ls i (.ref x) (fun l => k l r)
  | _ => False
def zinc (ls : zL) (i : Nat) (n : Int) (k : zL → Prop) : Prop := match ls[i]? with
  | some (some (.int x)) => zs1 ls i (.int (x + Int32.ofInt n)) k
  | _ => False
def zget (ci q : Nat) (st : List Value) (w : zW) (k : List Value → Prop) : Prop := match st with
  | .ref o :: r => zis o ci ∧ (match zfk ci q with
    | 0 => k (.int (gI w o q) :: r)
    | 1 => k (.long (gL w o q) :: r)
    | 2 => k (.int (gI w o q) :: r)
    | 3 => k (.ref (zrf o q) :: r)
    | _ => False)
  | _ => False
def zput (ci q : Nat) (st : List Value) (w : zW) (k : List Value → zW → Prop) : Prop := match zfk ci q with
  | 0 => match st with
    | .int x :: .ref o :: r => zis o ci ∧ k r (sI w o q x)
    | _ => False
  | 1 => match st with
    | .long x :: .ref o :: r => zis o ci ∧ k r (sL w o q x)
    | _ => False
  | 2 => match st with
    | .int x :: .ref o :: r => zis o ci ∧ (x = 0 ∨ x = 1) ∧ k r (sI w o q x)
    | _ => False
  | _ => False
def zald (kd : Nat) (st : List Value) (w : zW) (k : List Value → Prop) : Prop := match st with
  | .int j :: .ref o :: r => zar o kd (zln o) ∧ vp_in j (zln o) ∧ k (.int (gI w o j.toNatClampNeg) :: r)
  | _ => False
def zaldl (st : List Value) (w : zW) (k : List Value → Prop) : Prop := match st with
  | .int j :: .ref o :: r => zar o 1 (zln o) ∧ vp_in j (zln o) ∧ k (.long (gL w o j.toNatClampNeg) :: r)
  | _ => False
def zalda (st : List Value) (k : List Value → Prop) : Prop := match st with
  | .int j :: .ref o :: r => zar o 3 (zln o) ∧ vp_in j (zln o) ∧ k (.ref (zre o j.toNatClampNeg) :: r)
  | _ => False
def zast (st : List Value) (w : zW) (k : List Value → zW → Prop) : Prop := match st with
  | .int x :: .int j :: .ref o :: r => zar o 0 (zln o) ∧ vp_in j (zln o) ∧ k r (sI w o j.toNatClampNeg x)
  | _ => False
def zastc (st : List Value) (w : zW) (k : List Value → zW → Prop) : Prop := match st with
  | .int x :: .int j :: .ref o :: r => zar o 2 (zln o) ∧ vp_in j (zln o) ∧ k r (sI w o j.toNatClampNeg (vp_nar .char x))
  | _ => False
def zastl (st : List Value) (w : zW) (k : List Value → zW → Prop) : Prop := match st with
  | .long x :: .int j :: .ref o :: r => zar o 1 (zln o) ∧ vp_in j (zln o) ∧ k r (sL w o j.toNatClampNeg x)
  | _ => False
def zalen (st : List Value) (k : List Value → Prop) : Prop := match st with
  | .ref o :: r => zar o 0 (zln o) ∧ k (.int (Int32.ofNat (zln o)) :: r)
  | _ => False
def zscr (st : List Value) (w : zW) (k : List Value → Prop) : Prop := match st with
  | .int j :: .ref o :: r => o = 43 ∧ vp_in j (gI w 44 0).toNatClampNeg ∧ k (.int (gI w 43 j.toNatClampNeg) :: r)
  | _ => False
def zscl (st : List Value) (w : zW) (k : List Value → Prop) : Prop := match st with
  | .ref o :: r => o = 43 ∧ k (.int (gI w 44 0) :: r)
  | _ => False
def zdup (st : List Value) (k : List Value → Prop) : Prop := match st with
  | .int x :: r => k (.int x :: .int x :: r)
  | .ref x :: r => k (.ref x :: .ref x :: r)
  | _ => False
def zdup2 (st : List Value) (k : List Value → Prop) : Prop := match st with
  | .long x :: r => k (.long x :: .long x :: r)
  | .int x :: .ref y :: r => k (.int x :: .ref y :: .int x :: .ref y :: r)
  | _ => False
def zpop (st : List Value) (k : List Value → Prop) : Prop := match st with
  | .int _ :: r => k r
  | _ => False
/-- one instruction: what must hold ahead of it so that k holds behind it -/
def zone (a : zA) (ls : zL) (st : List Value) (w : zW) (k : zL → List Value → zW → Prop) : Prop := match a with
  | .inl v => k ls (v :: st) w
  | .inr i => match i with
    | .iload n => zldi ls n (fun v => k ls (v :: st) w)
    | .iload_n n => zldi ls n.val (fun v => k ls (v :: st) w)
    | .lload n => zldl ls n (fun v => k ls (v :: st) w)
    | .lload_n n => zldl ls n.val (fun v => k ls (v :: st) w)
    | .aload n => zlda ls n (fun v => k ls (v :: st) w)
    | .aload_n n => zlda ls n.val (fun v => k ls (v :: st) w)
    | .istore n => zsti ls n st (fun l r => k l r w)
    | .istore_n n => zsti ls n.val st (fun l r => k l r w)
    | .lstore n => zstl ls n st (fun l r => k l r w)
    | .lstore_n n => zstl ls n.val st (fun l r => k l r w)
    | .astore n => zsta ls n st (fun l r => k l r w)
    | .astore_n n => zsta ls n.val st (fun l r => k l r w)
    | .iinc n c => zinc ls n c (fun l => k l st w)
    | .iadd => zii (fun x y => x + y) st (fun r => k ls r w)
    | .isub => zii (fun x y => x - y) st (fun r => k ls r w)
    | .imul => zii (fun x y => x * y) st (fun r => k ls r w)
    | .iand => zii (fun x y => x &&& y) st (fun r => k ls r w)
    | .ior => zii (fun x y => x ||| y) st (fun r => k ls r w)
    | .ishl => zii (fun x y => x <<< (y &&& 31)) st (fun r => k ls r w)
    | .ishr => zii (fun x y => x >>> (y &&& 31)) st (fun r => k ls r w)
    | .idiv => zid (fun x y => x / y) st (fun r => k ls r w)
    | .irem => zid zrm st (fun r => k ls r w)
    | .ineg => zui (fun x => .int (-x)) st (fun r => k ls r w)
    | .ladd => zll (fun x y => .long (x + y)) st (fun r => k ls r w)
    | .lsub => zll (fun x y => .long (x - y)) st (fun r => k ls r w)
    | .lmul => zll (fun x y => .long (x * y)) st (fun r => k ls r w)
    | .land => zll (fun x y => .long (x &&& y)) st (fun r => k ls r w)
    | .lor => zll (fun x y => .long (x ||| y)) st (fun r => k ls r w)
    | .lxor => zll (fun x y => .long (x ^^^ y)) st (fun r => k ls r w)
    | .lcmp => zll (fun x y => .int (lg_cmp x y)) st (fun r => k ls r w)
    | .lneg => zul (fun x => .long (-x)) st (fun r => k ls r w)
    | .lshl => zls zsl st (fun r => k ls r w)
    | .lshr => zls zsr st (fun r => k ls r w)
    | .lushr => zls zus st (fun r => k ls r w)
    | .i2l => zui (fun x => .long x.toInt64) st (fun r => k ls r w)
    | .l2i => zul (fun x => .int x.toInt32) st (fun r => k ls r w)
    | .i2b => zui (fun x => .int x.toInt8.toInt32) st (fun r => k ls r w)
    | .i2s => zui (fun x => .int x.toInt16.toInt32) st (fun r => k ls r w)
    | .i2c => zui (fun x => .int (zch x)) st (fun r => k ls r w)
    | .dup => zdup st (fun r => k ls r w)
    | .dup2 => zdup2 st (fun r => k ls r w)
    | .pop => zpop st (fun r => k ls r w)
    | .invokeinterface ci q => zget ci q st w (fun r => k ls r w)
    | .multianewarray ci q => zput ci q st w (fun r w' => k ls r w')
    | .iaload => zald 0 st w (fun r => k ls r w)
    | .caload => zald 2 st w (fun r => k ls r w)
    | .laload => zaldl st w (fun r => k ls r w)
    | .aaload => zalda st (fun r => k ls r w)
    | .iastore => zast st w (fun r w' => k ls r w')
    | .castore => zastc st w (fun r w' => k ls r w')
    | .lastore => zastl st w (fun r w' => k ls r w')
    | .arraylength => zalen st (fun r => k ls r w)
    | .faload => zscr st w (fun r => k ls r w)
    | .monitorenter => zscl st w (fun r => k ls r w)
    | _ => False
def zrun : List zA → zL → List Value → zW → (zL → List Value → zW → Prop) → Prop
  | [], ls, st, w, k => k ls st w
  | a :: as, ls, st, w, k => zone a ls st w (fun ls st w => zrun as ls st w k)
def zbt (c : Jvm.ClassFile.Cond) (x y : Int32) : Prop := match c with
  | .eq => x = y
  | .ne => ¬ x = y
  | .lt => x < y
  | .ge => y ≤ x
  | .gt => y < x
  | .le => x ≤ y
def zbf (c : Jvm.ClassFile.Cond) (x y : Int32) : Prop := match c with
  | .eq => ¬ x = y
  | .ne => x = y
  | .lt => ¬ x < y
  | .ge => ¬ y ≤ x
  | .gt => ¬ y < x
  | .le => ¬ x ≤ y
def zsw (x : Int32) (k : Nat → Prop) (df : Nat) : List (Int32 × Nat) → Prop
  | [] => k df
  | q :: r => (x = q.1 → k q.2) ∧ (¬ x = q.1 → zsw x k df r)
def zcat (st : List Value) : Nat := (st.map fun v => v.category).sum
/-- a call's locals -/
def zent1 (vs : List Value) : zL := vs.flatMap fun v => match v with
  | .long x => [some (.long x), none]
  | .double x => [some (.double x), none]
  | v => [some v]
def zent (vs : List Value) (n : Nat) : zL := zent1 vs ++ List.replicate (n - (zent1 vs).length) none
def zpush (r : Option Value) (st : List Value) : List Value := match r with
  | some v => v :: st
  | none => st
abbrev zP : Type := Nat → Nat → Nat → zL → List Value → zW → zQ → Prop
/-- whose method it is -/
def zrcv (i : zI) (vs : List Value) : Prop := match i.2.2.2.2.2.1 with
  | true => True
  | false => match vs with
    | .ref o :: _ => zis o i.2.2.2.2.1
    | _ => False
def zcall (MI : List zI) (z b d y : Nat) (ls : zL) (st : List Value) (w : zW) (Q : zQ) (P : zP) : Prop := match MI[z]? with
  | none => False
  | some i => match d with
    | 0 => False
    | d + 1 => i.2.2.2.2.2.2 ≤ st.length ∧ (zent1 (st.take i.2.2.2.2.2.2).reverse).length ≤ i.2.2.1 ∧ zcat (st.drop i.2.2.2.2.2.2) ≤ 8 ∧ zrcv i (st.take i.2.2.2.2.2.2).reverse ∧ ∃ Q' : zQ, P d z 0 (zent (st.take i.2.2.2.2.2.2).reverse i.2.2.1) [] w Q' ∧ ∀ r w', Q' r w' → P (d + 1) y b ls (zpush r (st.drop i.2.2.2.2.2.2)) w' Q
def zretk (kd : Nat) (st : List Value) (w : zW) (Q : zQ) : Prop := match kd with
  | 0 => match st with
    | [] => Q none w
    | _ => False
  | 1 => match st with
    | [.int v] => Q (some (.int v)) w
    | _ => False
  | 2 => match st with
    | [.long v] => Q (some (.long v)) w
    | _ => False
  | 3 => match st with
    | [.int v] => (v = 0 ∨ v = 1) ∧ Q (some (.int v)) w
    | _ => False
  | _ => False
def zcopy (kd b d y : Nat) (ls : zL) (st : List Value) (w : zW) (Q : zQ) (P : zP) : Prop := match st with
  | .int n :: .int dp :: .ref o2 :: .int sp :: .ref o1 :: r => 0 < d ∧ zcat r ≤ 8 ∧ zar o1 kd (zln o1) ∧ zar o2 kd (zln o2) ∧ (¬ sp < 0 ∧ ¬ dp < 0 ∧ ¬ n < 0 ∧ sp.toNatClampNeg + n.toNatClampNeg ≤ zln o1 ∧ dp.toNatClampNeg + n.toNatClampNeg ≤ zln o2) ∧
    (match kd with
    | 0 => P d y b ls r (cI w o1 o2 sp.toNatClampNeg dp.toNatClampNeg n.toNatClampNeg) Q
    | 1 => P d y b ls r (cL w o1 o2 sp.toNatClampNeg dp.toNatClampNeg n.toNatClampNeg) Q
    | _ => False)
  | _ => False
def zmath (kd b d y : Nat) (ls : zL) (st : List Value) (w : zW) (Q : zQ) (P : zP) : Prop := match kd with
  | 0 => match st with
    | .int v :: .int u :: r => 0 < d ∧ zcat r ≤ 8 ∧ P d y b ls (.int (if u < v then v else u) :: r) w Q
    | _ => False
  | 1 => match st with
    | .int v :: .int u :: r => 0 < d ∧ zcat r ≤ 8 ∧ P d y b ls (.int (if v < u then v else u) :: r) w Q
    | _ => False
  | 2 => match st with
    | .int u :: r => 0 < d ∧ zcat r ≤ 8 ∧ P d y b ls (.int (if 0 ≤ u then u else 0 - u) :: r) w Q
    | _ => False
  | _ => False
def zterm (MI : List zI) (t : zT) (d y : Nat) (ls : zL) (st : List Value) (w : zW) (Q : zQ) (P : zP) : Prop := match t with
  | .inl (c, false, bt, bf) => match st with
    | .int x :: r => (zbt c x 0 → P d y bt ls r w Q) ∧ (zbf c x 0 → P d y bf ls r w Q)
    | _ => False
  | .inl (c, true, bt, bf) => match st with
    | .int v :: .int u :: r => (zbt c u v → P d y bt ls r w Q) ∧ (zbf c u v → P d y bf ls r w Q)
    | _ => False
  | .inr (.inl (cs, df)) => match st with
    | .int x :: r => zsw x (fun b => P d y b ls r w Q) df cs
    | _ => False
  | .inr (.inr (tag, a, b)) => match tag with
    | 0 => P d y a ls st w Q
    | 1 => zcall MI a b d y ls st w Q P
    | 2 => zretk a st w Q
    | 3 => zcopy a b d y ls st w Q P
    | 4 => zmath a b d y ls st w Q P
    | _ => False
def zbody (MI : List zI) (PG : List (List zB)) (d y b : Nat) (ls : zL) (st : List Value) (w : zW) (Q : zQ) (P : zP) : Prop := match (PG.getD y [])[b]? with
  | none => False
  | some B => zrun B.2.1 ls st w (fun ls st w => zterm MI B.2.2 d y ls st w Q P)
/-- less is known of the locals -/
def zle : zL → zL → Prop
  | [], [] => True
  | a :: r, b :: t => (a = none ∨ a = b) ∧ zle r t
  | _, _ => False
def zclosed (MI : List zI) (PG : List (List zB)) (P : zP) : Prop :=
  (∀ d y b ls st w Q, zbody MI PG d y b ls st w Q P → P d y b ls st w Q) ∧
  (∀ d y b ls ls' st w Q, zle ls ls' → P d y b ls st w Q → P d y b ls' st w Q)
def zWP (MI : List zI) (PG : List (List zB)) (d y b : Nat) (ls : zL) (st : List Value) (w : zW) (Q : zQ) : Prop := ∀ P : zP, zclosed MI PG P → P d y b ls st w Q
/-! monotone -/
theorem zii_mono {f : Int32 → Int32 → Int32} {st : List Value} {k k' : List Value → Prop} (h : ∀ r, k r → k' r) : zii f st k → zii f st k' := by
  unfold zii; split
  · exact h _
  · exact id
theorem zid_mono {f : Int32 → Int32 → Int32} {st : List Value} {k k' : List Value → Prop} (h : ∀ r, k r → k' r) : zid f st k → zid f st k' := by
  unfold zid; split
  · exact fun q => ⟨q.1, h _ q.2⟩
  · exact id
theorem zll_mono {f : Int64 → Int64 → Value} {st : List Value} {k k' : List Value → Prop} (h : ∀ r, k r → k' r) : zll f st k → zll f st k' := by
  unfold zll; split
  · exact h _
  · exact id
theorem zls_mono {f : Int64 → Int32 → Int64} {st : List Value} {k k' : List Value → Prop} (h : ∀ r, k r → k' r) : zls f st k → zls f st k' := by
  unfold zls; split
  · exact h _
  · exact id
theorem zui_mono {f : Int32 → Value} {st : List Value} {k k' : List Value → Prop} (h : ∀ r, k r → k' r) : zui f st k → zui f st k' := by
  unfold zui; split
  · exact h _
  · exact id
theorem zul_mono {f : Int64 → Value} {st : List Value} {k k' : List Value → Prop} (h : ∀ r, k r → k' r) : zul f st k → zul f st k' := by
  unfold zul; split
  · exact h _
  · exact id
theorem zldi_mono {ls : zL} {i : Nat} {k k' : Value → Prop} (h : ∀ r, k r → k' r) : zldi ls i k → zldi ls i k' := by
  unfold zldi; split
  · exact h _
  · exact id
theorem zldl_mono {ls : zL} {i : Nat} {k k' : Value → Prop} (h : ∀ r, k r → k' r) : zldl ls i k → zldl ls i k' := by
  unfold zldl; split
  · exact h _
  · exact id
theorem zlda_mono {ls : zL} {i : Nat} {k k' : Value → Prop} (h : ∀ r, k r → k' r) : zlda ls i k → zlda ls i k' := by
  unfold zlda; split
  · exact h _
  · exact id
theorem zs1_mono {ls : zL} {i : Nat} {v : Value} {k k' : zL → Prop} (h : ∀ r, k r → k' r) : zs1 ls i v k → zs1 ls i v k' := by
  unfold zs1; split
  · exact h _
  · exact id
theorem zs2_mono {ls : zL} {i : Nat} {v : Value} {k k' : zL → Prop} (h : ∀ r, k r → k' r) : zs2 ls i v k → zs2 ls i v k' := by
  unfold zs2; split
  · exact h _
  · exact id
theorem zsti_mono {ls : zL} {i : Nat} {st : List Value} {k k' : zL → List Value → Prop} (h : ∀ l r, k l r → k' l r) : zsti ls i st k → zsti ls i st k' := by
  unfold zsti; split
  · exact zs1_mono (fun l => h l _)
  · exact id
theorem zstl_mono {ls : zL} {i : Nat} {st : List Value} {k k' : zL → List Value → Prop} (h : ∀ l r, k l r → k' l r) : zstl ls i st k → zstl ls i st k' := by
  unfold zstl; split
  · exact zs2_mono (fun l => h l _)
  · exact id
theorem zsta_mono {ls : zL} {i : Nat} {st : List Value} {k k' : zL → List Value → Prop} (h : ∀ l r, k l r → k' l r) : zsta ls i st k → zsta ls i st k' := by
  unfold zsta; split
  · exact zs1_mono (fun l => h l _)
  · exact id
theorem zinc_mono {ls : zL} {i : Nat} {n : Int} {k k' : zL → Prop} (h : ∀ l, k l → k' l) : zinc ls i n k → zinc ls i n k' := by
  unfold zinc; split
  · exact zs1_mono h
  · exact id
theorem zget_mono {ci q : Nat} {st : List Value} {w : zW} {k k' : List Value → Prop} (h : ∀ r, k r → k' r) : zget ci q st w k → zget ci q st w k' := by
  unfold zget; split
  · rintro ⟨h1, h2⟩
    refine ⟨h1, ?_⟩
    revert h2
    split <;> first | exact h _ | exact id
  · exact id
theorem zput_mono {ci q : Nat} {st : List Value} {w : zW} {k k' : List Value → zW → Prop} (h : ∀ r w, k r w → k' r w) : zput ci q st w k → zput ci q st w k' := by
  unfold zput; split
  · split
    · exact fun q => ⟨q.1, h _ _ q.2⟩
    · exact id
  · split
    · exact fun q => ⟨q.1, h _ _ q.2⟩
    · exact id
  · split
    · exact fun q => ⟨q.1, q.2.1, h _ _ q.2.2⟩
    · exact id
  · exact id
theorem zald_mono {kd : Nat} {st : List Value} {w : zW} {k k' : List Value → Prop} (h : ∀ r, k r → k' r) : zald kd st w k → zald kd st w k' := by
  unfold zald; split
  · exact fun q => ⟨q.1, q.2.1, h _ q.2.2⟩
  · exact id
theorem zaldl_mono {st : List Value} {w : zW} {k k' : List Value → Prop} (h : ∀ r, k r → k' r) : zaldl st w k → zaldl st w k' := by
  unfold zaldl; split
  · exact fun q => ⟨q.1, q.2.1, h _ q.2.2⟩
  · exact id
theorem zalda_mono {st : List Value} {k k' : List Value → Prop} (h : ∀ r, k r → k' r) : zalda st k → zalda st k' := by
  unfold zalda; split
  · exact fun q => ⟨q.1, q.2.1, h _ q.2.2⟩
  · exact id
theorem zast_mono {st : List Value} {w : zW} {k k' : List Value → zW → Prop} (h : ∀ r w, k r w → k' r w) : zast st w k → zast st w k' := by
  unfold zast; split
  · exact fun q => ⟨q.1, q.2.1, h _ _ q.2.2⟩
  · exact id
theorem zastc_mono {st : List Value} {w : zW} {k k' : List Value → zW → Prop} (h : ∀ r w, k r w → k' r w) : zastc st w k → zastc st w k' := by
  unfold zastc; split
  · exact fun q => ⟨q.1, q.2.1, h _ _ q.2.2⟩
  · exact id
theorem zastl_mono {st : List Value} {w : zW} {k k' : List Value → zW → Prop} (h : ∀ r w, k r w → k' r w) : zastl st w k → zastl st w k' := by
  unfold zastl; split
  · exact fun q => ⟨q.1, q.2.1, h _ _ q.2.2⟩
  · exact id
theorem zalen_mono {st : List Value} {k k' : List Value → Prop} (h : ∀ r, k r → k' r) : zalen st k → zalen st k' := by
  unfold zalen; split
  · exact fun q => ⟨q.1, h _ q.2⟩
  · exact id
theorem zscr_mono {st : List Value} {w : zW} {k k' : List Value → Prop} (h : ∀ r, k r → k' r) : zscr st w k → zscr st w k' := by
  unfold zscr; split
  · exact fun q => ⟨q.1, q.2.1, h _ q.2.2⟩
  · exact id
theorem zscl_mono {st : List Value} {w : zW} {k k' : List Value → Prop} (h : ∀ r, k r → k' r) : zscl st w k → zscl st w k' := by
  unfold zscl; split
  · exact fun q => ⟨q.1, h _ q.2⟩
  · exact id
theorem zdup_mono {st : List Value} {k k' : List Value → Prop} (h : ∀ r, k r → k' r) : zdup st k → zdup st k' := by
  unfold zdup; split <;> first | exact h _ | exact id
theorem zdup2_mono {st : List Value} {k k' : List Value → Prop} (h : ∀ r, k r → k' r) : zdup2 st k → zdup2 st k' := by
  unfold zdup2; split <;> first | exact h _ | exact id
theorem zpop_mono {st : List Value} {k k' : List Value → Prop} (h : ∀ r, k r → k' r) : zpop st k → zpop st k' := by
  unfold zpop; split <;> first | exact h _ | exact id
theorem zone_mono (a : zA) {ls : zL} {st : List Value} {w : zW} {k k' : zL → List Value → zW → Prop} (h : ∀ l r w, k l r w → k' l r w) : zone a ls st w k → zone a ls st w k' := by
  cases a with
  | inl v => exact h _ _ _
  | inr i =>
    cases i <;> dsimp only [zone] <;> first
      | exact id
      | (refine zldi_mono ?_; intros; apply h; assumption)
      | (refine zldl_mono ?_; intros; apply h; assumption)
      | (refine zlda_mono ?_; intros; apply h; assumption)
      | (refine zsti_mono ?_; intros; apply h; assumption)
      | (refine zstl_mono ?_; intros; apply h; assumption)
      | (refine zsta_mono ?_; intros; apply h; assumption)
      | (refine zinc_mono ?_; intros; apply h; assumption)
      | (refine zii_mono ?_; intros; apply h; assumption)
      | (refine zid_mono ?_; intros; apply h; assumption)
      | (refine zll_mono ?_; intros; apply h; assumption)
      | (refine zls_mono ?_; intros; apply h; assumption)
      | (refine zui_mono ?_; intros; apply h; assumption)
      | (refine zul_mono ?_; intros; apply h; assumption)
      | (refine zdup_mono ?_; intros; apply h; assumption)
      | (refine zdup2_mono ?_; intros; apply h; assumption)
      | (refine zpop_mono ?_; intros; apply h; assumption)
      | (refine zget_mono ?_; intros; apply h; assumption)
      | (refine zput_mono ?_; intros; apply h; assumption)
      | (refine zald_mono ?_; intros; apply h; assumption)
      | (refine zaldl_mono ?_; intros; apply h; assumption)
      | (refine zalda_mono ?_; intros; apply h; assumption)
      | (refine zast_mono ?_; intros; apply h; assumption)
      | (refine zastc_mono ?_; intros; apply h; assumption)
      | (refine zastl_mono ?_; intros; apply h; assumption)
      | (refine zalen_mono ?_; intros; apply h; assumption)
      | (refine zscr_mono ?_; intros; apply h; assumption)
      | (refine zscl_mono ?_; intros; apply h; assumption)
theorem zrun_mono : ∀ (as : List zA) {ls : zL} {st : List Value} {w : zW} {k k' : zL → List Value → zW → Prop} (_ : ∀ l r w, k l r w → k' l r w), zrun as ls st w k → zrun as ls st w k'
  | [], _, _, _, _, _, h, q => h _ _ _ q
  | a :: as, _, _, _, _, _, h, q => zone_mono a (fun _ _ _ q => zrun_mono as h q) q
theorem zsw_mono {x : Int32} {k k' : Nat → Prop} {df : Nat} (h : ∀ b, k b → k' b) : ∀ cs : List (Int32 × Nat), zsw x k df cs → zsw x k' df cs
  | [], q => h _ q
  | _ :: r, q => ⟨fun e => h _ (q.1 e), fun e => zsw_mono h r (q.2 e)⟩
theorem zterm_mono {MI : List zI} {t : zT} {d y : Nat} {ls : zL} {st : List Value} {w : zW} {Q : zQ} {P P' : zP} (h : ∀ d y b ls st w Q, P d y b ls st w Q → P' d y b ls st w Q) : zterm MI t d y ls st w Q P → zterm MI t d y ls st w Q P' := by
  obtain ⟨c, t2, bt, bf⟩ | ⟨cs, df⟩ | ⟨tag, a, b⟩ := t
  · cases t2
    · dsimp only [zterm]
      split
      · exact fun q => ⟨fun e => h _ _ _ _ _ _ _ (q.1 e), fun e => h _ _ _ _ _ _ _ (q.2 e)⟩
      · exact id
    · dsimp only [zterm]
      split
      · exact fun q => ⟨fun e => h _ _ _ _ _ _ _ (q.1 e), fun e => h _ _ _ _ _ _ _ (q.2 e)⟩
      · exact id
  · dsimp only [zterm]
    split
    · exact zsw_mono (fun b => h _ _ _ _ _ _ _) _
    · exact id
  · dsimp only [zterm]
    split
    · exact h _ _ _ _ _ _ _
    · unfold zcall
      split
      · exact id
      · split
        · exact id
        · rintro ⟨h1, h2, h3, h3', Q', h4, h5⟩
          exact ⟨h1, h2, h3, h3', Q', h _ _ _ _ _ _ _ h4, fun r w' q => h _ _ _ _ _ _ _ (h5 r w' q)⟩
    · exact id
    · unfold zcopy
      split
      · rintro ⟨h1, h2, h3, h4, h5, h6⟩
        refine ⟨h1, h2, h3, h4, h5, ?_⟩
        revert h6
        split <;> first | exact h _ _ _ _ _ _ _ | exact id
      · exact id
    · unfold zmath
      split
      · split
        · exact fun q => ⟨q.1, q.2.1, h _ _ _ _ _ _ _ q.2.2⟩
        · exact id
      · split
        · exact fun q => ⟨q.1, q.2.1, h _ _ _ _ _ _ _ q.2.2⟩
        · exact id
      · split
        · exact fun q => ⟨q.1, q.2.1, h _ _ _ _ _ _ _ q.2.2⟩
        · exact id
      · exact id
    · exact id
theorem zbody_mono {MI : List zI} {PG : List (List zB)} {d y b : Nat} {ls : zL} {st : List Value} {w : zW} {Q : zQ} {P P' : zP} (h : ∀ d y b ls st w Q, P d y b ls st w Q → P' d y b ls st w Q) : zbody MI PG d y b ls st w Q P → zbody MI PG d y b ls st w Q P' := by
  unfold zbody
  split
  · exact id
  · exact zrun_mono _ (fun _ _ _ => zterm_mono h)
/-- a block is walked -/
theorem zWP.step {MI : List zI} {PG : List (List zB)} {d y b : Nat} {ls : zL} {st : List Value} {w : zW} {Q : zQ} (h : zbody MI PG d y b ls st w Q (zWP MI PG)) : zWP MI PG d y b ls st w Q :=
  fun P hP => hP.1 _ _ _ _ _ _ _ (zbody_mono (fun _ _ _ _ _ _ _ q => q P hP) h)
/-- locals forgotten -/
theorem zWP.weak {MI : List zI} {PG : List (List zB)} {d y b : Nat} {ls ls' : zL} {st : List Value} {w : zW} {Q : zQ} (hl : zle ls ls') (h : zWP MI PG d y b ls st w Q) : zWP MI PG d y b ls' st w Q :=
  fun P hP => hP.2 _ _ _ _ _ _ _ _ hl (h P hP)
