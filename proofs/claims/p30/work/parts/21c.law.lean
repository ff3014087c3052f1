/-! instructions that the law alone has: shifts, the low bits -/
def jl_sh (x y : Int) : Int := (Int32.ofInt x >>> (Int32.ofInt y &&& 31)).toInt
theorem jl_sh_r (x y : Int) : jb_r (jl_sh x y) := ⟨Int32.le_toInt _, Int32.toInt_lt _⟩
def jl_an (x y : Int) : Int := (Int32.ofInt x &&& Int32.ofInt y).toInt
theorem jl_an_r (x y : Int) : jb_r (jl_an x y) := ⟨Int32.le_toInt _, Int32.toInt_lt _⟩
theorem jl_an_p (x : Int) : 0 ≤ jl_an x 2147483647 := by
  unfold jl_an
  have h : (Int32.ofInt x &&& Int32.ofInt 2147483647).toBitVec.msb = false := by
    rw [Int32.toBitVec_and, BitVec.msb_and]
    have : (Int32.ofInt 2147483647).toBitVec.msb = false := by decide
    rw [this, Bool.and_false]
  show 0 ≤ (Int32.ofInt x &&& Int32.ofInt 2147483647).toBitVec.toInt
  rw [BitVec.toInt_eq_toNat_of_msb h]
  exact Int.natCast_nonneg _
section JbLw
variable {d mi pc : Nat} {ls : ib_Ls} {st r : List Value} {σ : ib_H} {Q : ib_O → Prop} {M : ib_M} {a1 a2 a3 a4 p : Nat}
theorem jw_ishr {x y : Int} (hpc : pc + 1 = p) (hM : ib_Ms mi = some M) (hq : M.2.2.2.2.2[pc]? = some (some (.ishr, a1, a2, a3, a4))) (h : jb_w d mi p ls (jb_v (jl_sh x y) :: r) σ Q) : jb_w d mi pc ls (jb_v y :: jb_v x :: r) σ Q := by
  subst hpc
  have e : jb_v (jl_sh x y) = .int (Int32.ofInt x >>> (Int32.ofInt y &&& 31)) := congrArg Value.int (Int32.ofInt_toInt _)
  exact jb_step (x := (pc + 1, ls, jb_v (jl_sh x y) :: r, σ)) hM hq (by simp only [ib_at]; rw [e]) h
theorem jw_iand {x y : Int} (hpc : pc + 1 = p) (hM : ib_Ms mi = some M) (hq : M.2.2.2.2.2[pc]? = some (some (.iand, a1, a2, a3, a4))) (h : jb_w d mi p ls (jb_v (jl_an x y) :: r) σ Q) : jb_w d mi pc ls (jb_v y :: jb_v x :: r) σ Q := by
  subst hpc
  have e : jb_v (jl_an x y) = .int (Int32.ofInt x &&& Int32.ofInt y) := congrArg Value.int (Int32.ofInt_toInt _)
  exact jb_step (x := (pc + 1, ls, jb_v (jl_an x y) :: r, σ)) hM hq (by simp only [ib_at]; rw [e]) h
end JbLw
