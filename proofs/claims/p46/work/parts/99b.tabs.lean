/-! The library's tables for StringBuilder, out of the claim's. -/
theorem before_of_flat {args : Array Value} {s : State} : ∀ T : Jvm.Cond, (∀ c ∈ flatC T, c.before args s = true) → T.before args s = true := by
  intro T
  induction T with
  | and a b iha ihb =>
    intro h
    rw [Cond.before_and, Bool.and_eq_true]
    exact ⟨iha fun c hc => h c (List.mem_append_left _ hc), ihb fun c hc => h c (List.mem_append_right _ hc)⟩
  | _ => intro h; exact h _ List.mem_cons_self
