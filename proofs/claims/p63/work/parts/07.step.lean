/-! THE ABSTRACT STEP, A METHOD'S RUN, AND WHAT A METHOD'S CONTRACT IS. -/
section ZG
/-- a method: name, bytes, locals, answer, room (frames, cells, slots, locals), number of parameters that its descriptor has, handlers, cells and slots where it throws -/
abbrev zm_M : Type := MethodName × ByteArray × Nat × Option FieldType × (Nat × Nat × Nat × Nat) × Nat × List (Nat × Nat × Nat × Nat) × (Nat × Nat)
def zmY (M : zm_M) : MethodName := M.1
def zmB (M : zm_M) : ByteArray := M.2.1
def zmL (M : zm_M) : Nat := M.2.2.1
def zmR (M : zm_M) : Option FieldType := M.2.2.2.1
def zmRoom (M : zm_M) : Room := { frames := M.2.2.2.2.1.1, cells := M.2.2.2.2.1.2.1, slots := M.2.2.2.2.1.2.2.1, locals := M.2.2.2.2.1.2.2.2 }
def zmC (M : zm_M) : Nat := M.2.2.2.2.1.2.1
def zmS (M : zm_M) : Nat := M.2.2.2.2.1.2.2.1
def zmN (M : zm_M) : Nat := M.2.2.2.2.2.1
def zmH (M : zm_M) : List (Nat × Nat × Nat × Nat) := M.2.2.2.2.2.2.1
def zmTc (M : zm_M) : Nat := M.2.2.2.2.2.2.2.1
def zmTs (M : zm_M) : Nat := M.2.2.2.2.2.2.2.2
def zmRoomT (M : zm_M) : Room := { frames := M.2.2.2.2.1.1, cells := zmTc M, slots := zmTs M, locals := M.2.2.2.2.1.2.2.2 }
def zmW (M : zm_M) : Cond := if (zmH M).isEmpty then .code (zmY M) (zmB M) (zmL M) (zmR M) else .codeWith (zmY M) (zmB M) (zmL M) (zmR M) (zmH M)
def zmWs (M : zm_M) : List Cond := zmW M :: gT
/-- an outcome: an answer, or an exception by its number; the heap behind it -/
abbrev zm_O : Type := (Option Value ⊕ Nat) × zm_H
abbrev zm_S : Type := List Value → zm_H → Option zm_O
def zex : Nat → String
  | 0 => "java/lang/IllegalStateException" | 1 => "java/lang/IllegalArgumentException" | 2 => "java/lang/IndexOutOfBoundsException" | _ => "java/util/NoSuchElementException"
/-- a row: pc, instruction, group, operands, constants, cells and slots made up to here, whether runs stop here, locals that are dead here -/
abbrev zm_R : Type := Nat × Instr × Nat × List Nat × Int32 × Int64 × (Nat × Nat) × Bool × List Nat
def rP (r : zm_R) : Nat := r.1
def rI (r : zm_R) : Instr := r.2.1
def rG (r : zm_R) : Nat := r.2.2.1
def rO (r : zm_R) : List Nat := r.2.2.2.1
def rC (r : zm_R) : Int32 := r.2.2.2.2.1
def rL (r : zm_R) : Int64 := r.2.2.2.2.2.1
def rN (r : zm_R) : Nat × Nat := r.2.2.2.2.2.2.1
def rH (r : zm_R) : Bool := r.2.2.2.2.2.2.2.1
def rK (r : zm_R) : List Nat := r.2.2.2.2.2.2.2.2
abbrev zm_K (X : Type) : Type := Nat → zm_L → List Value → zm_H → Option X
def zin (i : Int32) (n : Nat) : Prop := ¬ (i < 0 ∨ n ≤ i.toNatClampNeg)
def zcV {X : Type} (o : Option zm_O) (k : zm_H → Option X) : Option X := match o with | some (.inl none, h) => k h | _ => none
def zcI {X : Type} (o : Option zm_O) (k : Int32 → zm_H → Option X) : Option X := match o with | some (.inl (some (.int x)), h) => k x h | _ => none
def zcJ {X : Type} (o : Option zm_O) (k : Int64 → zm_H → Option X) : Option X := match o with | some (.inl (some (.long x)), h) => k x h | _ => none
def zcA {X : Type} (o : Option zm_O) (k : Nat → zm_H → Option X) : Option X := match o with | some (.inl (some (.ref x)), h) => k x h | _ => none
def zcD {X : Type} (o : Option zm_O) (k : UInt64 → zm_H → Option X) : Option X := match o with | some (.inl (some (.double x)), h) => k x h | _ => none
def zcF {X : Type} (o : Option zm_O) (k : UInt32 → zm_H → Option X) : Option X := match o with | some (.inl (some (.float x)), h) => k x h | _ => none
def zthr {X : Type} (o : Option zm_O) (kx : Nat → zm_H → Option X) (k : Option X) : Option X := match o with | some (.inr E, h) => kx E h | _ => k
def zhnd : List Nat → Nat → Option (Nat × Nat)
  | E1 :: p :: j :: t, E => if E = E1 then some (p, j) else zhnd t E
  | _, _ => none
section
variable {X : Type}
def zg1 (r : zm_R) (pc : Nat) (ls : zm_L) (st : List Value) (h : zm_H) (k : zm_K X) : Option X :=
  match rI r, rO r with
  | .goto _, [t] => k t ls st h
  | .ifCond .eq _, [t] => (match st with | .int x :: s => if x = 0 then k t ls s h else k (pc + 1) ls s h | _ => none)
  | .ifCond .ne _, [t] => (match st with | .int x :: s => if x = 0 then k (pc + 1) ls s h else k t ls s h | _ => none)
  | .ifCond .lt _, [t] => (match st with | .int x :: s => if x < 0 then k t ls s h else k (pc + 1) ls s h | _ => none)
  | .ifCond .ge _, [t] => (match st with | .int x :: s => if 0 ≤ x then k t ls s h else k (pc + 1) ls s h | _ => none)
  | .ifCond .gt _, [t] => (match st with | .int x :: s => if 0 < x then k t ls s h else k (pc + 1) ls s h | _ => none)
  | .ifCond .le _, [t] => (match st with | .int x :: s => if x ≤ 0 then k t ls s h else k (pc + 1) ls s h | _ => none)
  | .if_icmp .eq _, [t] => (match st with | .int y :: .int x :: s => if x = y then k t ls s h else k (pc + 1) ls s h | _ => none)
  | .if_icmp .ne _, [t] => (match st with | .int y :: .int x :: s => if x = y then k (pc + 1) ls s h else k t ls s h | _ => none)
  | .if_icmp .lt _, [t] => (match st with | .int y :: .int x :: s => if x < y then k t ls s h else k (pc + 1) ls s h | _ => none)
  | .if_icmp .ge _, [t] => (match st with | .int y :: .int x :: s => if y ≤ x then k t ls s h else k (pc + 1) ls s h | _ => none)
  | .if_icmp .gt _, [t] => (match st with | .int y :: .int x :: s => if y < x then k t ls s h else k (pc + 1) ls s h | _ => none)
  | .if_icmp .le _, [t] => (match st with | .int y :: .int x :: s => if x ≤ y then k t ls s h else k (pc + 1) ls s h | _ => none)
  | .ifnonnull _, [t] => (match st with | .ref _ :: s => k t ls s h | _ => none)
  | .tableswitch _ lo hi _, t0 :: ts => (match st with | .int x :: s => if x.toInt < lo ∨ hi < x.toInt then k t0 ls s h else (match ts[(x.toInt - lo).toNat]? with | some t => k t ls s h | none => none) | _ => none)
  | _, _ => none
def zg2 (r : zm_R) (pc : Nat) (ls : zm_L) (st : List Value) (h : zm_H) (k : zm_K X) : Option X :=
  match rI r, rO r with
  | .getfield _, [ci, j, nf, cd] => (match st with
    | .ref a :: s => zgd (zK h a = (ci + 6, nf)) (match cd with
      | 1 => k (pc + 1) ls (.long (zJ h a j) :: s) h
      | 2 => (match zP h a j with | some q => k (pc + 1) ls (.ref q :: s) h | none => none)
      | _ => k (pc + 1) ls (.int (zI h a j) :: s) h)
    | _ => none)
  | .putfield _, [ci, j, nf, cd] => (match cd, st with
    | 0, .int x :: .ref a :: s => zgd (zK h a = (ci + 6, nf)) (k (pc + 1) ls s (zsI h a j x))
    | 3, .int x :: .ref a :: s => zgd (zK h a = (ci + 6, nf) ∧ (x = 0 ∨ x = 1)) (k (pc + 1) ls s (zsI h a j x))
    | 4, .int x :: .ref a :: s => zgd (zK h a = (ci + 6, nf) ∧ x.toInt8.toInt32 = x) (k (pc + 1) ls s (zsI h a j x))
    | 1, .long x :: .ref a :: s => zgd (zK h a = (ci + 6, nf)) (k (pc + 1) ls s (zsJ h a j x))
    | 2, .ref q :: .ref a :: s => zgd (zK h a = (ci + 6, nf) ∧ q < zN h) (k (pc + 1) ls s (zsP h a j (some q)))
    | _, _ => none)
  | _, _ => none
def zg3 (scr : Nat × (Nat → Int32)) (r : zm_R) (pc : Nat) (ls : zm_L) (st : List Value) (h : zm_H) (k : zm_K X) : Option X :=
  match rI r, rO r with
  | .iaload, [0] => (match st with | .int i :: .ref a :: s => zgd ((zK h a).1 = 0 ∧ ¬ (i < 0 ∨ (zK h a).2 ≤ i.toNatClampNeg)) (k (pc + 1) ls (.int (zI h a i.toNatClampNeg) :: s) h) | _ => none)
  | .iaload, [9] => (match st with | .int i :: .ref a :: s => zgd (a = 2000000 ∧ ¬ (i < 0 ∨ scr.1 ≤ i.toNatClampNeg)) (k (pc + 1) ls (.int (scr.2 i.toNatClampNeg) :: s) h) | _ => none)
  | .laload, [1] => (match st with | .int i :: .ref a :: s => zgd ((zK h a).1 = 1 ∧ ¬ (i < 0 ∨ (zK h a).2 ≤ i.toNatClampNeg)) (k (pc + 1) ls (.long (zJ h a i.toNatClampNeg) :: s) h) | _ => none)
  | .baload, [2] => (match st with | .int i :: .ref a :: s => zgd ((zK h a).1 = 2 ∧ ¬ (i < 0 ∨ (zK h a).2 ≤ i.toNatClampNeg)) (k (pc + 1) ls (.int (zI h a i.toNatClampNeg) :: s) h) | _ => none)
  | .baload, [3] => (match st with | .int i :: .ref a :: s => zgd ((zK h a).1 = 3 ∧ ¬ (i < 0 ∨ (zK h a).2 ≤ i.toNatClampNeg)) (k (pc + 1) ls (.int (zI h a i.toNatClampNeg) :: s) h) | _ => none)
  | .aaload, [5] => (match st with | .int i :: .ref a :: s => zgd ((zK h a).1 = 5 ∧ ¬ (i < 0 ∨ (zK h a).2 ≤ i.toNatClampNeg)) (match zP h a i.toNatClampNeg with | some q => k (pc + 1) ls (.ref q :: s) h | none => none) | _ => none)
  | .iastore, [0] => (match st with | .int x :: .int i :: .ref a :: s => zgd ((zK h a).1 = 0 ∧ ¬ (i < 0 ∨ (zK h a).2 ≤ i.toNatClampNeg)) (k (pc + 1) ls s (zsI h a i.toNatClampNeg x)) | _ => none)
  | .lastore, [1] => (match st with | .long x :: .int i :: .ref a :: s => zgd ((zK h a).1 = 1 ∧ ¬ (i < 0 ∨ (zK h a).2 ≤ i.toNatClampNeg)) (k (pc + 1) ls s (zsJ h a i.toNatClampNeg x)) | _ => none)
  | .bastore, [2] => (match st with | .int x :: .int i :: .ref a :: s => zgd ((zK h a).1 = 2 ∧ ¬ (i < 0 ∨ (zK h a).2 ≤ i.toNatClampNeg)) (k (pc + 1) ls s (zsI h a i.toNatClampNeg x.toInt8.toInt32)) | _ => none)
  | .bastore, [3] => (match st with | .int x :: .int i :: .ref a :: s => zgd (((zK h a).1 = 3 ∧ ¬ (i < 0 ∨ (zK h a).2 ≤ i.toNatClampNeg)) ∧ (x = 0 ∨ x = 1)) (k (pc + 1) ls s (zsI h a i.toNatClampNeg x)) | _ => none)
  | .aastore, [5] => (match st with | .ref q :: .int i :: .ref a :: s => zgd (((zK h a).1 = 5 ∧ ¬ (i < 0 ∨ (zK h a).2 ≤ i.toNatClampNeg)) ∧ (zK h q).1 = 8) (k (pc + 1) ls s (zsP h a i.toNatClampNeg (some q))) | _ => none)
  | .arraylength, [9] => (match st with | .ref a :: s => zgd (a = 2000000) (k (pc + 1) ls (.int (nI scr.1) :: s) h) | _ => none)
  | .arraylength, [t] => (match st with | .ref a :: s => zgd ((zK h a).1 = t) (k (pc + 1) ls (.int (nI (zK h a).2) :: s) h) | _ => none)
  | _, _ => none
def zg4 (r : zm_R) (pc : Nat) (ls : zm_L) (st : List Value) (h : zm_H) (k : zm_K X) : Option X :=
  match rI r, rO r with
  | .new _, [ci, nf] => zgd (zN h < 900000) (k (pc + 1) ls (.ref (zN h) :: st) (znew h (ci + 6) nf))
  | .newarray _, [kd, bd] => (match st with | .int n :: s => zgd (zN h < 900000 ∧ ¬ n < 0 ∧ n.toNatClampNeg ≤ bd) (k (pc + 1) ls (.ref (zN h) :: s) (znew h kd n.toNatClampNeg)) | _ => none)
  | .anewarray _, [_, bd] => (match st with | .int n :: s => zgd (zN h < 900000 ∧ ¬ n < 0 ∧ n.toNatClampNeg ≤ bd) (k (pc + 1) ls (.ref (zN h) :: s) (znew h 5 n.toNatClampNeg)) | _ => none)
  | _, _ => none
def zg5 (r : zm_R) (st : List Value) (h : zm_H) : Option zm_O :=
  match rI r, rO r with
  | .ireturn, [0] => (match st with | [.int x] => some (.inl (some (.int x)), h) | _ => none)
  | .ireturn, [1] => (match st with | [.int x] => zgd (x = 0 ∨ x = 1) (some (.inl (some (.int x)), h)) | _ => none)
  | .ireturn, [2] => (match st with | [.int x] => zgd (x.toInt8.toInt32 = x) (some (.inl (some (.int x)), h)) | _ => none)
  | .ireturn, [3] => (match st with | [.int x] => zgd ((x.toUInt32 % 65536).toInt32 = x) (some (.inl (some (.int x)), h)) | _ => none)
  | .lreturn, _ => (match st with | [.long x] => some (.inl (some (.long x)), h) | _ => none)
  | .dreturn, _ => (match st with | [.double x] => some (.inl (some (.double x)), h) | _ => none)
  | .freturn, _ => (match st with | [.float x] => some (.inl (some (.float x)), h) | _ => none)
  | .areturn, _ => (match st with | [.ref x] => some (.inl (some (.ref x)), h) | _ => none)
  | .return_, _ => (match st with | [] => some (.inl none, h) | _ => none)
  | _, _ => none
def znrm (rk : Nat) (o : Option zm_O) (pc : Nat) (ls : zm_L) (rest : List Value) (k : zm_K X) : Option X := match rk with
  | 0 => zcV o (fun h2 => k (pc + 1) ls rest h2)
  | 1 => zcI o (fun x h2 => k (pc + 1) ls (.int x :: rest) h2)
  | 2 => zcJ o (fun x h2 => k (pc + 1) ls (.long x :: rest) h2)
  | 3 => zcA o (fun x h2 => k (pc + 1) ls (.ref x :: rest) h2)
  | 4 => zcD o (fun x h2 => k (pc + 1) ls (.double x :: rest) h2)
  | _ => zcF o (fun x h2 => k (pc + 1) ls (.float x :: rest) h2)
def zrcv (kd ci : Nat) (vs : List Value) (h : zm_H) (o : Option X) : Option X := match kd with
  | 0 => (match vs with | .ref y :: _ => zgd ((zK h y).1 = ci + 6) o | _ => none)
  | 2 => (match vs with | .ref _ :: _ => o | _ => none)
  | 4 => (match vs with | .ref _ :: _ => o | _ => none)
  | 6 => (match vs with | .ref y :: _ => zgd ((1000000 ≤ y ∧ y < 1000010) ∨ (zK h y).1 = 13) o | _ => none)
  | 7 => (match vs with | .ref y :: _ => zgd ((zK h y).1 = 12) o | _ => none)
  | 8 => (match vs with | .ref y :: _ => zgd ((zK h y).1 = 12) o | _ => none)
  | 10 => (match vs with | .ref y :: _ => zgd ((zK h y).1 = 12) o | _ => none)
  | _ => o
def zg6 (env : List (zm_M × zm_S)) (r : zm_R) (pc : Nat) (ls : zm_L) (st : List Value) (h : zm_H) (fin : zm_O → Option X) (k : zm_K X) : Option X :=
  match rO r with
  | kd :: e :: n :: rk :: th :: ci :: hs => (match env[e]? with
    | some (_, S) => (match Nat.ble n st.length && Nat.ble ((st.drop n).map fun v => v.category).sum 8 with
      | true => zrcv kd ci (st.drop (n - 1)) h (match th with
        | 0 => znrm rk (S (st.take n).reverse h) pc ls (st.drop n) k
        | 1 => zthr (S (st.take n).reverse h) (fun E h2 => fin (.inr E, h2)) (znrm rk (S (st.take n).reverse h) pc ls (st.drop n) k)
        | _ => zthr (S (st.take n).reverse h) (fun E h2 => match zhnd hs E with | some (p, j) => k (p + 1) ((zclr j ls).set j none) [] h2 | none => none) (znrm rk (S (st.take n).reverse h) pc ls (st.drop n) k))
      | false => none)
    | none => none)
  | _ => none
def zcpk (h : zm_H) (a a0 : Nat) (sp dp n : Int32) (t : Nat) : Prop := (zK h a).1 = t ∧ (zK h a0).1 = t ∧ ¬ sp < 0 ∧ ¬ dp < 0 ∧ ¬ n < 0 ∧ sp.toNatClampNeg + n.toNatClampNeg ≤ (zK h a0).2 ∧ dp.toNatClampNeg + n.toNatClampNeg ≤ (zK h a).2
def zg8 (r : zm_R) (pc : Nat) (ls : zm_L) (st : List Value) (h : zm_H) (k : zm_K X) : Option X :=
  match rO r, st with
  | [0], [.int n, .int dp, .ref a, .int sp, .ref a0] => zgd ((zK h a).1 = 0 ∧ (zK h a0).1 = 0 ∧ ¬ sp < 0 ∧ ¬ dp < 0 ∧ ¬ n < 0 ∧ sp.toNatClampNeg + n.toNatClampNeg ≤ (zK h a0).2 ∧ dp.toNatClampNeg + n.toNatClampNeg ≤ (zK h a).2) (k (pc + 1) ls [] (zrI h a (va_cpy (zI h a0) (zI h a) sp.toNatClampNeg dp.toNatClampNeg n.toNatClampNeg)))
  | [1], [.int n, .int dp, .ref a, .int sp, .ref a0] => zgd ((zK h a).1 = 1 ∧ (zK h a0).1 = 1 ∧ ¬ sp < 0 ∧ ¬ dp < 0 ∧ ¬ n < 0 ∧ sp.toNatClampNeg + n.toNatClampNeg ≤ (zK h a0).2 ∧ dp.toNatClampNeg + n.toNatClampNeg ≤ (zK h a).2) (k (pc + 1) ls [] (zrJ h a (va_cpy (zJ h a0) (zJ h a) sp.toNatClampNeg dp.toNatClampNeg n.toNatClampNeg)))
  | [3], [.int n, .int dp, .ref a, .int sp, .ref a0] => zgd (((zK h a).1 = 3 ∧ (zK h a0).1 = 3 ∧ ¬ sp < 0 ∧ ¬ dp < 0 ∧ ¬ n < 0 ∧ sp.toNatClampNeg + n.toNatClampNeg ≤ (zK h a0).2 ∧ dp.toNatClampNeg + n.toNatClampNeg ≤ (zK h a).2) ∧ ∀ i, i < n.toNatClampNeg → (zI h a0 (sp.toNatClampNeg + i) = 0 ∨ zI h a0 (sp.toNatClampNeg + i) = 1)) (k (pc + 1) ls [] (zrI h a (va_cpy (zI h a0) (zI h a) sp.toNatClampNeg dp.toNatClampNeg n.toNatClampNeg)))
  | _, _ => none
/-- what is read alone: the bytes of the texts (1000200 on), the two tables of digits (1000300, 1000301) -/
def zdig (t : Nat) : List Int32 := (List.range 100).map (fun k => nI (48 + (if t = 0 then k % 10 else k / 10)))
def zkey : List (List Int32) := [[114, 111, 111, 109, 32, 114], [32, 107, 101, 121, 32], [32, 99, 111, 105, 110, 115, 32], [59], [100, 111, 111, 114, 32, 114], [32, 114], [32, 116, 111, 108, 108, 32], [32, 111, 110, 101, 119, 97, 121], [115, 116, 97, 114, 116, 32, 114], [101, 110, 100, 32, 114]]
def zro (a : Nat) : Option (List Int32) := if 1000200 ≤ a ∧ a < 1000210 then some (zkey.getD (a - 1000200) []) else if a = 1000300 then some (zdig 0) else if a = 1000301 then some (zdig 1) else none
/-- a row of bytes: its length, a byte of it -/
def zbl (h : zm_H) (a : Nat) : Option Nat := match zro a with | some bs => some bs.length | none => if (zK h a).1 = 2 then some (zK h a).2 else none
def zby (h : zm_H) (a i : Nat) : Int32 := match zro a with | some bs => bs.getD i 0 | none => zI h a i
/-- a text's row of bytes, its coder -/
def zsv (h : zm_H) (a : Nat) : Option Nat := if 1000000 ≤ a ∧ a < 1000010 then some (a + 200) else if zK h a = (13, 4) then zP h a 0 else none
def zsd (h : zm_H) (a : Nat) : Option Int32 := if 1000000 ≤ a ∧ a < 1000010 then some 0 else if zK h a = (13, 4) then some (zI h a 1) else none
/-- statics, texts' fields, bytes wherever they lie, a copy of a row of bytes -/
def zg14 (r : zm_R) (pc : Nat) (ls : zm_L) (st : List Value) (h : zm_H) (k : zm_K X) : Option X :=
  match rI r, rO r with
  | .getstatic _, [0] => k (pc + 1) ls (.int 1 :: st) h
  | .getstatic _, [t] => k (pc + 1) ls (.ref (1000299 + t) :: st) h
  | .getfield _, [0] => (match st with | .ref a :: s => (match zsv h a with | some q => k (pc + 1) ls (.ref q :: s) h | none => none) | _ => none)
  | .getfield _, [_] => (match st with | .ref a :: s => (match zsd h a with | some x => k (pc + 1) ls (.int x :: s) h | none => none) | _ => none)
  | .baload, [_] => (match st with | .int i :: .ref a :: s => (match zbl h a with | some n => zgd (¬ (i < 0 ∨ n ≤ i.toNatClampNeg)) (k (pc + 1) ls (.int (zby h a i.toNatClampNeg) :: s) h) | none => none) | _ => none)
  | .arraylength, [_] => (match st with | .ref a :: s => (match zbl h a with | some n => k (pc + 1) ls (.int (nI n) :: s) h | none => none) | _ => none)
  | .invokevirtual _, [bd] => (match st with | .ref a :: s => zgd ((zN h < 900000 ∧ (zK h a).1 = 2 ∧ (zK h a).2 ≤ bd ∧ Nat.ble (s.map fun v => v.category).sum 8 = true) ∧ ∀ i, i < (zK h a).2 → (zI h a i).toInt8.toInt32 = zI h a i) (k (pc + 1) ls (.ref (zN h) :: s) (zrI (znew h 2 (zK h a).2) (zN h) (zI h a))) | _ => none)
  | .checkcast _, [_] => (match st with | .ref a :: s => zgd ((zK h a).1 = 2) (k (pc + 1) ls (.ref a :: s) h) | _ => none)
  | _, _ => none
def zg15 (r : zm_R) (pc : Nat) (ls : zm_L) (st : List Value) (h : zm_H) (k : zm_K X) : Option X :=
  match st with
  | [.int n, .int dp, .ref a, .int sp, .ref a0] => (match zbl h a0 with
    | some n0 => zgd (((zK h a).1 = 2 ∧ ¬ sp < 0 ∧ ¬ dp < 0 ∧ ¬ n < 0 ∧ sp.toNatClampNeg + n.toNatClampNeg ≤ n0 ∧ dp.toNatClampNeg + n.toNatClampNeg ≤ (zK h a).2) ∧ ∀ i, i < n.toNatClampNeg → (zby h a0 (sp.toNatClampNeg + i)).toInt8.toInt32 = zby h a0 (sp.toNatClampNeg + i)) (k (pc + 1) ls [] (zrI h a (va_cpy (zby h a0) (zI h a) sp.toNatClampNeg dp.toNatClampNeg n.toNatClampNeg)))
    | none => none)
  | _ => none
def zg9 (r : zm_R) (pc : Nat) (ls : zm_L) (st : List Value) (h : zm_H) (k : zm_K X) : Option X :=
  match rI r, rO r with
  | .ldc _, [7, i] => k (pc + 1) ls (.ref (1000000 + i) :: st) h
  | .ldc _, [0] => k (pc + 1) ls (.int (rC r) :: st) h
  | .ldc_w _, [0] => k (pc + 1) ls (.int (rC r) :: st) h
  | .ldc2_w _, [1] => k (pc + 1) ls (.long (rL r) :: st) h
  | _, _ => none
def zg11 (r : zm_R) (pc : Nat) (ls : zm_L) (st : List Value) (h : zm_H) (k : zm_K X) : Option X :=
  match rI r, st with
  | .idiv, .int y :: .int x :: s => zgd (¬ y = 0) (k (pc + 1) ls (.int (x / y) :: s) h)
  | .lrem, .long y :: .long x :: s => zgd (¬ y = 0) (k (pc + 1) ls (.long (x - x / y * y) :: s) h)
  | .irem, .int y :: .int x :: s => zgd (¬ y = 0) (k (pc + 1) ls (.int (x - x / y * y) :: s) h)
  | .fdiv, .float y :: .float x :: s => zgd (FP.fdiv x y &&& 0x7fffffff ≤ 0x7f800000) (k (pc + 1) ls (.float (FP.fdiv x y) :: s) h)
  | .ddiv, .double y :: .double x :: s => zgd (FP.ddiv x y &&& 0x7fffffffffffffff ≤ 0x7ff0000000000000) (k (pc + 1) ls (.double (FP.ddiv x y) :: s) h)
  | .f2d, .float x :: s => zgd (FP.f2d x &&& 0x7fffffffffffffff ≤ 0x7ff0000000000000) (k (pc + 1) ls (.double (FP.f2d x) :: s) h)
  | _, _ => none
def zg13 (r : zm_R) (pc : Nat) (ls : zm_L) (st : List Value) (h : zm_H) (k : zm_K X) : Option X :=
  match rO r, st with
  | [0], .int y :: .int x :: s => (match Nat.ble (s.map fun v => v.category).sum 8 with | true => k (pc + 1) ls (.int (if x < y then y else x) :: s) h | false => none)
  | [1], .int y :: .int x :: s => (match Nat.ble (s.map fun v => v.category).sum 8 with | true => k (pc + 1) ls (.int (if y < x then y else x) :: s) h | false => none)
  | [2], .long y :: .long x :: s => (match Nat.ble (s.map fun v => v.category).sum 8 with | true => k (pc + 1) ls (.long (if y < x then x else y) :: s) h | false => none)
  | _, _ => none
def zstep (env : List (zm_M × zm_S)) (scr : Nat × (Nat → Int32)) (r : zm_R) (pc : Nat) (ls : zm_L) (st : List Value) (h : zm_H) (fin : zm_O → Option X) (k : zm_K X) : Option X :=
  match rG r with
  | 0 => (match zpure (rI r) (rC r) (rL r) ls st with | some (ls2, st2) => k (pc + 1) ls2 st2 h | none => none)
  | 1 => zg1 r pc ls st h k
  | 2 => zg2 r pc ls st h k
  | 3 => zg3 scr r pc ls st h k
  | 4 => zg4 r pc ls st h k
  | 5 => (match zg5 r st h with | some o => fin o | none => none)
  | 6 => zg6 env r pc ls st h fin k
  | 7 => (match rO r, st with | E :: _, [] => fin (.inr E, h) | _, _ => none)
  | 8 => zg8 r pc ls st h k
  | 9 => zg9 r pc ls st h k
  | 10 => (match st with | [.ref _] => k (pc + 1) ls [] h | _ => none)
  | 11 => zg11 r pc ls st h k
  | 13 => zg13 r pc ls st h k
  | 14 => zg14 r pc ls st h k
  | 15 => zg15 r pc ls st h k
  | _ => none
end
abbrev zm_T : Type := Nat × zm_L × List Value × zm_H
/-- what follows a step: a stop, or a run on by f -/
def zcont (rows : List zm_R) (f : zm_K (zm_T ⊕ zm_O)) : zm_K (zm_T ⊕ zm_O) := fun pc2 ls2 st2 h2 => match rows[pc2]? with
  | none => none
  | some r2 => match rH r2 with
    | true => some (.inl (pc2, zkill (rK r2) ls2, st2, h2))
    | false => f pc2 ls2 st2 h2
/-- from a state on to the next stop, or to the end -/
def zev (env : List (zm_M × zm_S)) (scr : Nat × (Nat → Int32)) (rows : List zm_R) : Nat → zm_K (zm_T ⊕ zm_O)
  | 0 => fun _ _ _ _ => none
  | n + 1 => fun pc ls st h => match rows[pc]? with
    | none => none
    | some r => zstep env scr r pc ls st h (fun o => some (.inr o)) (zcont rows (zev env scr rows n))
def zE (env : List (zm_M × zm_S)) (scr : Nat × (Nat → Int32)) (rows : List zm_R) (t : zm_T) : Option (zm_T ⊕ zm_O) := zev env scr rows 4000 t.1 t.2.1 t.2.2.1 t.2.2.2
def zrun (env : List (zm_M × zm_S)) (scr : Nat × (Nat → Int32)) (rows : List zm_R) : Nat → zm_T → Option zm_O
  | 0, _ => none
  | n + 1, t => match zE env scr rows t with
    | some (.inl t2) => zrun env scr rows n t2
    | some (.inr o) => some o
    | none => none
/-- the run from t ends with o -/
def zRn (env : List (zm_M × zm_S)) (scr : Nat × (Nat → Int32)) (rows : List zm_R) (t : zm_T) (o : zm_O) : Prop := ∃ n, zrun env scr rows n t = some o
theorem zRn.head {env : List (zm_M × zm_S)} {scr : Nat × (Nat → Int32)} {rows : List zm_R} {t t2 : zm_T} {o : zm_O} (h : zE env scr rows t = some (.inl t2)) (k : zRn env scr rows t2 o) : zRn env scr rows t o := by
  obtain ⟨n, hn⟩ := k
  exact ⟨n + 1, by simp only [zrun, h]; exact hn⟩
theorem zRn.done {env : List (zm_M × zm_S)} {scr : Nat × (Nat → Int32)} {rows : List zm_R} {t : zm_T} {o : zm_O} (h : zE env scr rows t = some (.inr o)) : zRn env scr rows t o := ⟨1, by simp only [zrun, h]⟩
theorem zrun_mono {env : List (zm_M × zm_S)} {scr : Nat × (Nat → Int32)} {rows : List zm_R} {o : zm_O} : ∀ {n : Nat} {t : zm_T}, zrun env scr rows n t = some o → zrun env scr rows (n + 1) t = some o := by
  intro n
  induction n with
  | zero => intro t h; cases h
  | succ n ih =>
    intro t h
    rw [zrun] at h
    rw [zrun]
    cases e : zE env scr rows t with
    | none => rw [e] at h; cases h
    | some x =>
      rw [e] at h
      cases x with
      | inl t2 => exact ih h
      | inr o2 => exact h
theorem zrun_le {env : List (zm_M × zm_S)} {scr : Nat × (Nat → Int32)} {rows : List zm_R} {o : zm_O} {n k : Nat} {t : zm_T} (h : zrun env scr rows n t = some o) (hk : n ≤ k) : zrun env scr rows k t = some o := by
  induction hk with
  | refl => exact h
  | step _ ih => exact zrun_mono ih
theorem zRn.one {env : List (zm_M × zm_S)} {scr : Nat × (Nat → Int32)} {rows : List zm_R} {t : zm_T} {o o2 : zm_O} (h : zRn env scr rows t o) (h2 : zRn env scr rows t o2) : o = o2 := by
  obtain ⟨n, hn⟩ := h
  obtain ⟨k, hk⟩ := h2
  have h1 := zrun_le hn (Nat.le_max_left n k)
  have h3 := zrun_le hk (Nat.le_max_right n k)
  exact Option.some.inj (h1.symm.trans h3)
/-- the locals at a method's entry -/
def zarg : List Value → zm_L
  | [] => []
  | v :: vs => if v.category = 2 then some v :: none :: zarg vs else some v :: zarg vs
def zlok (n : Nat) (vs : List Value) : zm_L := zarg vs ++ List.replicate (n - (zarg vs).length) none
/-- what a method does, by its rows; sc: the script, for who reads it -/
noncomputable def zsem2 (sc : Nat × (Nat → Int32)) (env : List (zm_M × zm_S)) (rows : List zm_R) (nL : Nat) : zm_S := fun av h =>
  @dite (Option zm_O) ((zarg av).length ≤ nL ∧ ∃ o, zRn env sc rows (0, zlok nL av, [], h) o) (Classical.propDecidable _) (fun q => some q.2.choose) (fun _ => none)
noncomputable abbrev zsem (env : List (zm_M × zm_S)) (rows : List zm_R) (nL : Nat) : zm_S := zsem2 (0, fun _ => 0) env rows nL
theorem zsem2_of {sc : Nat × (Nat → Int32)} {env : List (zm_M × zm_S)} {rows : List zm_R} {nL : Nat} {av : List Value} {h : zm_H} {o : zm_O} (hn : (zarg av).length ≤ nL) (q : zRn env sc rows (0, zlok nL av, [], h) o) : zsem2 sc env rows nL av h = some o := by
  unfold zsem2
  rw [dif_pos ⟨hn, o, q⟩]
  exact congrArg some (zRn.one (Exists.choose_spec (⟨o, q⟩ : ∃ o, zRn env sc rows (0, zlok nL av, [], h) o)) q)
theorem zsem_of {env : List (zm_M × zm_S)} {rows : List zm_R} {nL : Nat} {av : List Value} {h : zm_H} {o : zm_O} (hn : (zarg av).length ≤ nL) (q : zRn env (0, fun _ => 0) rows (0, zlok nL av, [], h) o) : zsem env rows nL av h = some o := zsem2_of hn q
theorem zsem2_rn {sc : Nat × (Nat → Int32)} {env : List (zm_M × zm_S)} {rows : List zm_R} {nL : Nat} {av : List Value} {h : zm_H} {o : zm_O} (q : zsem2 sc env rows nL av h = some o) : (zarg av).length ≤ nL ∧ zRn env sc rows (0, zlok nL av, [], h) o := by
  unfold zsem2 at q
  split at q
  · rename_i hq
    rw [← Option.some.inj q]
    exact ⟨hq.1, hq.2.choose_spec⟩
  · cases q
end ZG
