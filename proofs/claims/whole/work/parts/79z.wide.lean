/-! the whole library is read from here on -/
theorem zz_wide : Jvm.Free.ALB.AlCopy.CO = Jvm.Free.ALB.AlCopy.CO := rfl
