/-! that the tables of part 03 are right: each instruction decodes so, each word stands in the statement's tables -/
def ib_own (M : ib_M) : String := M.1.cls
def ib_wd (i : Nat) (w : Cond) : Bool := decide (tables_1[i]? = some w) && goodWord w
def ib_ty (t : Nat) : FieldType := if t = 100 then .int else if t = 101 then .boolean else if t = 102 then .long else if t = 103 then .object "PageLoom$Page" else .object "PageLoom$LogRecord"
def ib_fok (own : String) (idx a1 a2 a4 : Nat) : Bool := match vwCl[a1]? with
  | some (_, T, N) => decide (a2 < N) && ib_wd a4 (.fieldLink own idx (T a2).1 (T a2).2.1 (T a2).2.2.1)
  | none => false
def ib_pok (own : String) (nm : String) (a1 a2 : Nat) : Bool := match vwCl[a1]? with
  | some (_, T, _) => !(T a2).2.2.2 || (decide (nm = "<init>") && decide ((T a2).1 = own))
  | none => false
def ib_sok (own : String) (idx a1 a3 a4 : Nat) (virt : Bool) : Bool := match ib_Ms a1 with
  | some C => (if virt then ib_wd a4 (.methodLink own idx C.1) && decide ((vwCl[a3]?).map (fun q => q.1) = some C.1.cls) else (ib_wd a4 (.methodLink own idx C.1) || decide (tables_1[a4]? = some (.methodLinkNest own idx C.1 "PageLoom"))) && decide (C.1.name = "<init>") && decide (C.2.2.2.1 = none))
  | none => false
def ib_tok (own : String) (idx a1 a4 : Nat) : Bool := match ib_Ms a1 with
  | some C => ib_wd a4 (.methodLink own idx C.1)
  | none => false
def ib_np (M : ib_M) : Option Nat := (parseMethodDescriptor M.1.desc).map (fun d => d.parameters.length)
def ib_npk (a1 a2 : Nat) : Bool := match ib_Ms a1 with
  | some C => decide (ib_np C = some a2)
  | none => false
def ib_chk (M : ib_M) (pc : Nat) (q : ib_A) : Bool := decide (decode M.2.1 pc = .ok (q.1, ib_len q.1 q.2.2.2.1)) && match q.1 with
  | .ldc idx => ib_wd q.2.2.2.2 (.constant M.1.cls idx (Int32.ofNat q.2.1))
  | .getfield idx => ib_fok M.1.cls idx q.2.1 q.2.2.1 q.2.2.2.2
  | .putfield idx => ib_fok M.1.cls idx q.2.1 q.2.2.1 q.2.2.2.2 && ib_pok M.1.cls M.1.name q.2.1 q.2.2.1
  | .goto o => decide ((pc : Int) + o = (q.2.1 : Int))
  | .ifCond _ o => decide ((pc : Int) + o = (q.2.1 : Int))
  | .if_icmp _ o => decide ((pc : Int) + o = (q.2.1 : Int))
  | .ifnull o => decide ((pc : Int) + o = (q.2.1 : Int))
  | .ifnonnull o => decide ((pc : Int) + o = (q.2.1 : Int))
  | .newarray at_ => decide (newarray.typeOf at_ = ib_ty q.2.1) && decide (100 ≤ q.2.1) && decide (q.2.1 ≤ 101) && ib_wd q.2.2.2.2 (.arrayClass (ib_ty q.2.1))
  | .anewarray idx => (decide (q.2.1 = 103) || decide (q.2.1 = 104)) && (match ib_ty q.2.1 with | .object C => ib_wd q.2.2.2.2 (.classLink M.1.cls idx C) | _ => false)
  | .new idx => decide (100 ≤ q.2.1) || (match vwCl[q.2.1]? with | some (C, _, _) => ib_wd q.2.2.2.2 (.classLink M.1.cls idx C) | none => false)
  | .invokespecial idx => if q.2.1 = 1000 then ib_wd q.2.2.2.2 (.methodLink M.1.cls idx Lib.objectInit) else ib_sok M.1.cls idx q.2.1 q.2.2.2.1 q.2.2.2.2 false && ib_npk q.2.1 q.2.2.1
  | .invokevirtual idx => ib_sok M.1.cls idx q.2.1 q.2.2.2.1 q.2.2.2.2 true && ib_npk q.2.1 q.2.2.1
  | .invokestatic idx => ib_tok M.1.cls idx q.2.1 q.2.2.2.2 && ib_npk q.2.1 q.2.2.1
  | .ireturn => if q.2.1 = 1 then decide (M.2.2.2.1 = some .boolean) else decide (M.2.2.2.1 = some .int)
  | .areturn => (match M.2.2.2.1 with | some (.object _) => true | some (.array _) => true | _ => false)
  | .return_ => decide (M.2.2.2.1 = none)
  | .laload => false
  | .lastore => false
  | _ => true
def ib_chkAll (M : ib_M) : Nat → List (Option ib_A) → Bool
  | _, [] => true
  | pc, none :: r => ib_chkAll M (pc + 1) r
  | pc, some q :: r => ib_chk M pc q && ib_chkAll M (pc + 1) r
theorem ib_chkAll_at (M : ib_M) : ∀ (l : List (Option ib_A)) (pc k : Nat) (q : ib_A), ib_chkAll M pc l = true → l[k]? = some (some q) → ib_chk M (pc + k) q = true := by
  intro l
  induction l with
  | nil => intro pc k q _ h; simp at h
  | cons a r ih =>
    intro pc k q hc h
    cases k with
    | zero =>
      rw [List.getElem?_cons_zero] at h
      cases h
      simp only [ib_chkAll, Bool.and_eq_true] at hc
      exact hc.1
    | succ k =>
      rw [List.getElem?_cons_succ] at h
      have h2 : ib_chkAll M (pc + 1) r = true := by
        cases a with
        | none => exact hc
        | some z => simp only [ib_chkAll, Bool.and_eq_true] at hc; exact hc.2
      have := ih (pc + 1) k q h2 h
      rw [show pc + (k + 1) = pc + 1 + k by omega]
      exact this
theorem ib_chkAll_app (M : ib_M) : ∀ (a b : List (Option ib_A)) (pc : Nat), ib_chkAll M pc (a ++ b) = (ib_chkAll M pc a && ib_chkAll M (pc + a.length) b) := by
  intro a
  induction a with
  | nil => intro b pc; simp [ib_chkAll]
  | cons q r ih =>
    intro b pc
    cases q with
    | none => simp only [List.cons_append, ib_chkAll, ih, List.length_cons]; rw [show pc + 1 + r.length = pc + (r.length + 1) by omega]
    | some q => simp only [List.cons_append, ib_chkAll, ih, List.length_cons, Bool.and_assoc]; rw [show pc + 1 + r.length = pc + (r.length + 1) by omega]
