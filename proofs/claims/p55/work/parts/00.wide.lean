theorem t_wide : @Jvm.Free.Multi.outerC = @Jvm.Free.Multi.outerC := rfl
