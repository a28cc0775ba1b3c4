/-! making: new cells -/
def AOq (U : State) : Prop := (Cond.arrayOver (.array .int)).before #[] U = true
theorem AOq.use {A : Array Value} {U : State} (h : AOq U) : (Cond.arrayOver (.array .int)).before A U = true := h
theorem AOq.moved {u U : State} (hvm : u.vm.Alike U.vm) (h : AOq u) : AOq U := by
  unfold AOq Cond.before Cond.holds at h ⊢
  simp only [Cond.value, beq_iff_eq] at h ⊢
  rw [hvm.findClass]
  sorry
theorem z_t : True := by
  have := @Stand.multianewarray2F
  have := @Jvm.Free.Multi.fill_facts
  have := @Vm.Alike.findClass
  trivial
