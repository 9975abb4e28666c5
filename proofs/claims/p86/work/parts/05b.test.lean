theorem ts_ao1 : goodWord (Cond.arrayOver (.object "RuntimeHeapLaw$Thing")) = true := rfl
theorem ts_ao2 : goodWord (Cond.arrayOver (.array .int)) = true := rfl
