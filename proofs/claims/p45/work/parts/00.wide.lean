/-! The rounds of this claim read the whole library (99zzg needs new T[n][k]): said at once, so that a first round on a new machine isn't begun twice. -/
theorem wide_at_once : True := by
  have _h := @Jvm.Free.Multi.fill_facts
  trivial
