/-! THE ABSTRACT MACHINE: heaps over names (0 is null, 1 the script), the instructions, runs. Mine, for any class: nothing here speaks of PageLoom but the tables of part 02. -/
abbrev ib_H : Type := (Nat × Nat × Nat) × (Nat → Nat × Nat) × (Nat → Nat → Int32) × (Nat → Nat → Nat) × (Nat → Nat → Int64)
abbrev ib_nx (σ : ib_H) : Nat := σ.1.1
abbrev ib_cc (σ : ib_H) : Nat := σ.1.2.1
abbrev ib_sc (σ : ib_H) : Nat := σ.1.2.2
abbrev ib_sh (σ : ib_H) : Nat → Nat × Nat := σ.2.1
abbrev ib_I (σ : ib_H) : Nat → Nat → Int32 := σ.2.2.1
abbrev ib_P (σ : ib_H) : Nat → Nat → Nat := σ.2.2.2.1
abbrev ib_L (σ : ib_H) : Nat → Nat → Int64 := σ.2.2.2.2
def ib_u {α : Type} (f : Nat → Nat → α) (n k : Nat) (x : α) : Nat → Nat → α := fun a b => if a = n ∧ b = k then x else f a b
def ib_z {α : Type} (f : Nat → Nat → α) (n : Nat) (x : α) : Nat → Nat → α := fun a b => if a = n then x else f a b
def ib_setI (σ : ib_H) (n k : Nat) (x : Int32) : ib_H := (σ.1, σ.2.1, ib_u σ.2.2.1 n k x, σ.2.2.2.1, σ.2.2.2.2)
def ib_setP (σ : ib_H) (n k : Nat) (x : Nat) : ib_H := (σ.1, σ.2.1, σ.2.2.1, ib_u σ.2.2.2.1 n k x, σ.2.2.2.2)
def ib_setL (σ : ib_H) (n k : Nat) (x : Int64) : ib_H := (σ.1, σ.2.1, σ.2.2.1, σ.2.2.2.1, ib_u σ.2.2.2.2 n k x)
/-- a new thing of tag t and length len, of sl slots; its name is ib_nx σ -/
def ib_new (σ : ib_H) (t len sl : Nat) : ib_H := ((σ.1.1 + 1, σ.1.2.1 + 1, σ.1.2.2 + sl), (fun a => if a = σ.1.1 then (t, len) else σ.2.1 a), ib_z σ.2.2.1 σ.1.1 0, ib_z σ.2.2.2.1 σ.1.1 0, ib_z σ.2.2.2.2 σ.1.1 0)
def ib_cost (σ : ib_H) (k n : Nat) : ib_H := ((σ.1.1, σ.1.2.1 + k, σ.1.2.2 + n), σ.2)
abbrev ib_Ls : Type := List (Option Value)
/-- what an instruction does: it goes on; it calls; it returns; it throws -/
abbrev ib_R : Type := (Nat × ib_Ls × List Value × ib_H) ⊕ ((Nat × List Value × List Value) ⊕ (Option Value ⊕ Nat))
abbrev ib_go (pc : Nat) (ls : ib_Ls) (st : List Value) (σ : ib_H) : Option ib_R := some (.inl (pc, ls, st, σ))
def ib_len (i : Instr) (a3 : Nat) : Nat := match i with
  | .aload _ => 2 | .iload _ => 2 | .istore _ => 2 | .astore _ => 2 | .bipush _ => 2 | .ldc _ => 2 | .newarray _ => 2
  | .getfield _ => 3 | .putfield _ => 3 | .invokevirtual _ => 3 | .invokespecial _ => 3 | .invokestatic _ => 3 | .goto _ => 3
  | .ifCond _ _ => 3 | .if_icmp _ _ => 3 | .ifnull _ => 3 | .ifnonnull _ => 3 | .iinc _ _ => 3 | .sipush _ => 3 | .new _ => 3 | .anewarray _ => 3
  | .tableswitch _ _ _ _ => a3
  | _ => 1
def ib_cnd (c : ClassFile.Cond) (x y : Int32) : Bool := match c with
  | .eq => decide (x = y)
  | .ne => decide (¬ x = y)
  | .lt => decide (x < y)
  | .ge => decide (y ≤ x)
  | .gt => decide (y < x)
  | .le => decide (x ≤ y)
def ib_ldI (ls : ib_Ls) (k pc : Nat) (st : List Value) (σ : ib_H) : Option ib_R := match ls[k]? with
  | some (some (.int v)) => ib_go pc ls (.int v :: st) σ
  | _ => none
def ib_ldA (ls : ib_Ls) (k pc : Nat) (st : List Value) (σ : ib_H) : Option ib_R := match ls[k]? with
  | some (some (.ref v)) => ib_go pc ls (.ref v :: st) σ
  | _ => none
def ib_sto (ls : ib_Ls) (k pc : Nat) (st : List Value) (σ : ib_H) : Option ib_R := match st with
  | .int x :: r => if k < ls.length then ib_go pc (ls.set k (some (.int x))) r σ else none
  | _ => none
def ib_stoA (ls : ib_Ls) (k pc : Nat) (st : List Value) (σ : ib_H) : Option ib_R := match st with
  | .ref x :: r => if k < ls.length then ib_go pc (ls.set k (some (.ref x))) r σ else none
  | _ => none
/-- the place of an array: its name's tag is t, the index lies in it -/
def ib_in (σ : ib_H) (t n : Nat) (i : Int32) : Bool := decide (2 ≤ n) && decide (n < ib_nx σ) && decide ((ib_sh σ n).1 = t) && !(decide (i < 0) || decide ((ib_sh σ n).2 ≤ i.toNatClampNeg))
def ib_obj (σ : ib_H) (t n : Nat) : Bool := decide (2 ≤ n) && decide (n < ib_nx σ) && decide ((ib_sh σ n).1 = t) && decide (t < 50)
abbrev ib_A : Type := Instr × Nat × Nat × Nat × Nat
def ib_at (ks : Nat → Nat → Nat) (fn : Nat → Nat) (q : ib_A) (pc : Nat) (ls : ib_Ls) (st : List Value) (σ : ib_H) : Option ib_R := match q.1 with
  | .aconst_null => ib_go (pc + 1) ls (.ref 0 :: st) σ
  | .aload k => ib_ldA ls k (pc + 2) st σ
  | .aload_n k => ib_ldA ls k.val (pc + 1) st σ
  | .iload k => ib_ldI ls k (pc + 2) st σ
  | .iload_n k => ib_ldI ls k.val (pc + 1) st σ
  | .istore k => ib_sto ls k (pc + 2) st σ
  | .istore_n k => ib_sto ls k.val (pc + 1) st σ
  | .astore k => ib_stoA ls k (pc + 2) st σ
  | .astore_n k => ib_stoA ls k.val (pc + 1) st σ
  | .iconst n => ib_go (pc + 1) ls (.int (Int32.ofInt n) :: st) σ
  | .bipush n => ib_go (pc + 2) ls (.int (Int8.ofInt n).toInt32 :: st) σ
  | .sipush n => ib_go (pc + 3) ls (.int (Int16.ofInt n).toInt32 :: st) σ
  | .ldc _ => ib_go (pc + 2) ls (.int (Int32.ofNat q.2.1) :: st) σ
  | .getfield _ => match st with
    | .ref n :: r => if ib_obj σ q.2.1 n then ib_go (pc + 3) ls ((if ks q.2.1 q.2.2.1 = 2 then .ref (ib_P σ n q.2.2.1) else .int (ib_I σ n q.2.2.1)) :: r) σ else none
    | _ => none
  | .putfield _ => match st with
    | .int x :: .ref n :: r => if ib_obj σ q.2.1 n && (decide (ks q.2.1 q.2.2.1 = 0) || (decide (ks q.2.1 q.2.2.1 = 1) && (decide (x = 0) || decide (x = 1)))) then ib_go (pc + 3) ls r (ib_setI σ n q.2.2.1 x) else none
    | .ref x :: .ref n :: r => if ib_obj σ q.2.1 n && decide (ks q.2.1 q.2.2.1 = 2) && !decide (x = 1) then ib_go (pc + 3) ls r (ib_setP σ n q.2.2.1 x) else none
    | _ => none
  | .goto _ => ib_go q.2.1 ls st σ
  | .ifCond c _ => match st with
    | .int x :: r => if ib_cnd c x 0 then ib_go q.2.1 ls r σ else ib_go (pc + 3) ls r σ
    | _ => none
  | .if_icmp c _ => match st with
    | .int y :: .int x :: r => if ib_cnd c x y then ib_go q.2.1 ls r σ else ib_go (pc + 3) ls r σ
    | _ => none
  | .ifnull _ => match st with
    | .ref n :: r => if n = 0 then ib_go q.2.1 ls r σ else ib_go (pc + 3) ls r σ
    | _ => none
  | .ifnonnull _ => match st with
    | .ref n :: r => if n = 0 then ib_go (pc + 3) ls r σ else ib_go q.2.1 ls r σ
    | _ => none
  | .iinc k n => match ls[k]? with
    | some (some (.int x)) => ib_go (pc + 3) (ls.set k (some (.int (x + Int32.ofInt n)))) st σ
    | _ => none
  | .iadd => match st with
    | .int y :: .int x :: r => ib_go (pc + 1) ls (.int (x + y) :: r) σ
    | _ => none
  | .isub => match st with
    | .int y :: .int x :: r => ib_go (pc + 1) ls (.int (x - y) :: r) σ
    | _ => none
  | .imul => match st with
    | .int y :: .int x :: r => ib_go (pc + 1) ls (.int (x * y) :: r) σ
    | _ => none
  | .ishr => match st with
    | .int y :: .int x :: r => ib_go (pc + 1) ls (.int (x >>> (y &&& 31)) :: r) σ
    | _ => none
  | .iand => match st with
    | .int y :: .int x :: r => ib_go (pc + 1) ls (.int (x &&& y) :: r) σ
    | _ => none
  | .idiv => match st with
    | .int y :: .int x :: r => if y = 0 then none else ib_go (pc + 1) ls (.int (x / y) :: r) σ
    | _ => none
  | .irem => match st with
    | .int y :: .int x :: r => if y = 0 then none else ib_go (pc + 1) ls (.int (x - x / y * y) :: r) σ
    | _ => none
  | .i2l => match st with
    | .int x :: r => ib_go (pc + 1) ls (.long x.toInt64 :: r) σ
    | _ => none
  | .lcmp => match st with
    | .long y :: .long x :: r => ib_go (pc + 1) ls (.int (lg_cmp x y) :: r) σ
    | _ => none
  | .dup => match st with
    | .int x :: r => ib_go (pc + 1) ls (.int x :: .int x :: r) σ
    | .ref x :: r => ib_go (pc + 1) ls (.ref x :: .ref x :: r) σ
    | _ => none
  | .dup2 => match st with
    | .int x :: .ref y :: r => ib_go (pc + 1) ls (.int x :: .ref y :: .int x :: .ref y :: r) σ
    | _ => none
  | .pop => match st with
    | .int _ :: r => ib_go (pc + 1) ls r σ
    | .ref _ :: r => ib_go (pc + 1) ls r σ
    | _ => none
  | .arraylength => match st with
    | .ref n :: r => if n = 1 then ib_go (pc + 1) ls (.int (Int32.ofNat (ib_sh σ 1).2) :: r) σ else if decide (2 ≤ n) && decide (n < ib_nx σ) && decide (100 ≤ (ib_sh σ n).1) && decide ((ib_sh σ n).1 < 105) then ib_go (pc + 1) ls (.int (Int32.ofNat (ib_sh σ n).2) :: r) σ else none
    | _ => none
  | .iaload => match st with
    | .int i :: .ref n :: r => if n = 1 then (if i < 0 ∨ (ib_sh σ 1).2 ≤ i.toNatClampNeg then none else ib_go (pc + 1) ls (.int (ib_I σ 1 i.toNatClampNeg) :: r) σ) else if ib_in σ 100 n i then ib_go (pc + 1) ls (.int (ib_I σ n i.toNatClampNeg) :: r) σ else none
    | _ => none
  | .iastore => match st with
    | .int x :: .int i :: .ref n :: r => if ib_in σ 100 n i then ib_go (pc + 1) ls r (ib_setI σ n i.toNatClampNeg x) else none
    | _ => none
  | .baload => match st with
    | .int i :: .ref n :: r => if ib_in σ 101 n i then ib_go (pc + 1) ls (.int (ib_I σ n i.toNatClampNeg) :: r) σ else none
    | _ => none
  | .bastore => match st with
    | .int x :: .int i :: .ref n :: r => if ib_in σ 101 n i && (decide (x = 0) || decide (x = 1)) then ib_go (pc + 1) ls r (ib_setI σ n i.toNatClampNeg x) else none
    | _ => none
  | .laload => match st with
    | .int i :: .ref n :: r => if ib_in σ 102 n i then ib_go (pc + 1) ls (.long (ib_L σ n i.toNatClampNeg) :: r) σ else none
    | _ => none
  | .lastore => match st with
    | .long x :: .int i :: .ref n :: r => if ib_in σ 102 n i then ib_go (pc + 1) ls r (ib_setL σ n i.toNatClampNeg x) else none
    | _ => none
  | .aaload => match st with
    | .int i :: .ref n :: r => if ib_in σ 103 n i || ib_in σ 104 n i then ib_go (pc + 1) ls (.ref (ib_P σ n i.toNatClampNeg) :: r) σ else none
    | _ => none
  | .aastore => match st with
    | .ref x :: .int i :: .ref n :: r => if (ib_in σ 103 n i && (decide (x = 0) || ib_obj σ 4 x)) || (ib_in σ 104 n i && (decide (x = 0) || ib_obj σ 3 x)) then ib_go (pc + 1) ls r (ib_setP σ n i.toNatClampNeg x) else none
    | _ => none
  | .newarray _ => match st with
    | .int n :: r => if n < 0 ∨ ¬ n.toNatClampNeg ≤ 1000000 then none else ib_go (pc + 2) ls (.ref (ib_nx σ) :: r) (ib_new σ q.2.1 n.toNatClampNeg n.toNatClampNeg)
    | _ => none
  | .anewarray _ => match st with
    | .int n :: r => if n < 0 ∨ ¬ n.toNatClampNeg ≤ 1000000 then none else ib_go (pc + 3) ls (.ref (ib_nx σ) :: r) (ib_new σ q.2.1 n.toNatClampNeg n.toNatClampNeg)
    | _ => none
  | .new _ => if 100 ≤ q.2.1 then (if st.isEmpty then some (.inr (.inr (.inr (q.2.1 - 100)))) else none) else ib_go (pc + 3) ls (.ref (ib_nx σ) :: st) (ib_new σ q.2.1 0 (fn q.2.1))
  | .tableswitch d lo hi offs => match st with
    | .int x :: r => if x.toInt < lo ∨ hi < x.toInt then (if 0 ≤ (pc : Int) + d then ib_go ((pc : Int) + d).toNat ls r σ else none) else match offs[(x.toInt - lo).toNat]? with
      | some o => if 0 ≤ (pc : Int) + o then ib_go ((pc : Int) + o).toNat ls r σ else none
      | none => none
    | _ => none
  | .invokespecial _ => if q.2.1 = 1000 then (match st with
      | .ref n :: r => if n = 0 ∨ 4 < r.length then none else ib_go (pc + 3) ls r σ
      | _ => none) else match st.drop q.2.2.1 with
      | .ref n :: r => if ib_obj σ q.2.2.2.1 n && decide (q.2.2.1 ≤ st.length) then some (.inr (.inl (q.2.1, .ref n :: (st.take q.2.2.1).reverse, r))) else none
      | _ => none
  | .invokevirtual _ => match st.drop q.2.2.1 with
      | .ref n :: r => if ib_obj σ q.2.2.2.1 n && decide (q.2.2.1 ≤ st.length) then some (.inr (.inl (q.2.1, .ref n :: (st.take q.2.2.1).reverse, r))) else none
      | _ => none
  | .invokestatic _ => if q.2.2.1 ≤ st.length then some (.inr (.inl (q.2.1, (st.take q.2.2.1).reverse, st.drop q.2.2.1))) else none
  | .ireturn => match st with
    | [.int x] => if q.2.1 = 1 ∧ ¬ (x = 0 ∨ x = 1) then none else some (.inr (.inr (.inl (some (.int x)))))
    | _ => none
  | .areturn => match st with
    | [.ref n] => some (.inr (.inr (.inl (some (.ref n)))))
    | _ => none
  | .return_ => match st with
    | [] => some (.inr (.inr (.inl none)))
    | _ => none
  | _ => none
/-- a method: its name, bytes, locals, what it returns, its handlers, its instructions by pc -/
abbrev ib_M : Type := MethodName × ByteArray × Nat × Option FieldType × List (Nat × Nat × Nat × Nat) × List (Option ib_A)
abbrev ib_My (M : ib_M) : MethodName := M.1
abbrev ib_Mb (M : ib_M) : ByteArray := M.2.1
abbrev ib_Ml (M : ib_M) : Nat := M.2.2.1
abbrev ib_Mr (M : ib_M) : Option FieldType := M.2.2.2.1
abbrev ib_Mh (M : ib_M) : List (Nat × Nat × Nat × Nat) := M.2.2.2.2.1
abbrev ib_Mc (M : ib_M) : List (Option ib_A) := M.2.2.2.2.2
def ib_cat1 (v : Value) : Bool := decide (v.category = 1)
def ib_ent (n : Nat) (as : List Value) : ib_Ls := as.map some ++ List.replicate (n - as.length) none
/-- the handler for exception k thrown at pc, if any -/
def ib_hnd (ct : Nat → Nat) (pc k : Nat) : List (Nat × Nat × Nat × Nat) → Option Nat
  | [] => none
  | (a, b, h, t) :: r => if a ≤ pc ∧ pc < b ∧ ct t = k then some h else ib_hnd ct pc k r
abbrev ib_O : Type := (Option Value ⊕ Nat) × ib_H
/-- one instruction, and what follows by rec -/
def ib_one (Ms : Nat → Option ib_M) (ks : Nat → Nat → Nat) (fn : Nat → Nat) (ct : Nat → Nat) (rec : Nat → Nat → Nat → ib_Ls → List Value → ib_H → Option ib_O) (d mi pc : Nat) (ls : ib_Ls) (st : List Value) (σ : ib_H) : Option ib_O :=
  match Ms mi with
  | none => none
  | some M => match M.2.2.2.2.2[pc]? with
    | some (some q) => match ib_at ks fn q pc ls st σ with
      | none => none
      | some (.inl x) => rec d mi x.1 x.2.1 x.2.2.1 x.2.2.2
      | some (.inr (.inl c)) => if d = 0 then none else match Ms c.1 with
        | none => none
        | some C => if c.2.1.all ib_cat1 && decide (c.2.1.length ≤ C.2.2.1) && decide (c.2.2.length ≤ 4) then
            match rec (d - 1) c.1 0 (ib_ent C.2.2.1 c.2.1) [] σ with
            | none => none
            | some (.inl v, σ') => rec d mi (pc + 3) ls (v.toList ++ c.2.2) σ'
            | some (.inr k, σ') => match ib_hnd ct pc k M.2.2.2.2.1 with
              | some h => match M.2.2.2.2.2[h]? with
                | some (some (.astore_n i, _)) => rec d mi (h + 1) (ls.set i.val none) [] σ'
                | some (some (.astore i, _)) => rec d mi (h + 2) (ls.set i none) [] σ'
                | _ => none
              | none => if M.2.2.2.2.1.isEmpty then some (.inr k, σ') else none
          else none
      | some (.inr (.inr (.inl v))) => some (.inl v, σ)
      | some (.inr (.inr (.inr k))) => if 6 ≤ d then some (.inr k, ib_cost σ 1 6) else none
    | _ => none
def ib_run (Ms : Nat → Option ib_M) (ks : Nat → Nat → Nat) (fn : Nat → Nat) (ct : Nat → Nat) : Nat → Nat → Nat → Nat → ib_Ls → List Value → ib_H → Option ib_O
  | 0 => fun _ _ _ _ _ _ => none
  | n + 1 => ib_one Ms ks fn ct (ib_run Ms ks fn ct n)
