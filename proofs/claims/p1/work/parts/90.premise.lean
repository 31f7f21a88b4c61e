/-! Evidence for REPORT.md ('TRANSLATOR'), no part of a claim: whatever state meets the printed premises of p1 has the class [Ljava/lang/StackTraceElement; in its table. -/
def st_at : List Bool → Cond → Cond
  | true :: p, .and a _ => st_at p a
  | false :: p, .and _ b => st_at p b
  | _, c => c

theorem st_at_holds (args : Array Value) (s : State) (p : List Bool) : ∀ c : Cond, c.before args s = true → (st_at p c).before args s = true := by
  induction p with
  | nil => intro c h; simpa only [st_at] using h
  | cons b p ih =>
    intro c h
    by_cases hc : ∃ x y, c = .and x y
    · obtain ⟨x, y, rfl⟩ := hc
      rw [Cond.before_and, Bool.and_eq_true] at h
      cases b
      · exact ih y h.2
      · exact ih x h.1
    · have e : st_at (b :: p) c = c := by
        cases c <;> first | (exfalso; exact hc ⟨_, _, rfl⟩) | (cases b <;> rfl)
      rw [e]; exact h

theorem st_place : st_at [false, false, true, false, true, true, true, false, false, true] (Cond.and given_1 narrow_1) = Cond.not (Cond.castable "[Ljava/lang/StackTraceElement;" "java/lang/String") := rfl

theorem st_needs (args : Array Value) (s : State) (h : (Cond.and given_1 narrow_1).before args s = true) : ∃ c, s.vm.findClass "[Ljava/lang/StackTraceElement;" = some c := by
  have h1 := st_at_holds args s [false, false, true, false, true, true, true, false, false, true] _ h
  rw [st_place] at h1
  cases hf : s.vm.findClass "[Ljava/lang/StackTraceElement;" with
  | some c => exact ⟨c, rfl⟩
  | none => simp [Cond.before, Cond.holds, Cond.value, hf] at h1
