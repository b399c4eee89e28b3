section YW0
/-! a name of the wide library: so every part is read over the whole of it at once (else 05, 06 compile twice) -/
theorem yw_wide : @Jvm.Free.Multi.fill = @Jvm.Free.Multi.fill := rfl
end YW0
