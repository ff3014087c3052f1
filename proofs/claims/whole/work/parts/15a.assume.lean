/-! to be put in place of this: wip/whole/later, the check of the tables -/
theorem ib_chk_all : ∀ M ∈ ib_ms, ib_chkAll M 0 M.2.2.2.2.2 = true := sorry
