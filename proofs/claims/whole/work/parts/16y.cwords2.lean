theorem mm_J8_194 : Cond.methodLink RJ8 194 Lib.Math.max.name ∈ gw := gw_at 166 (by decide +kernel) rfl
theorem mm_J7_304 : Cond.methodLink RJ7 304 Lib.Math.min.name ∈ gw := gw_at 200 (by decide +kernel) rfl
theorem mm_Jx4a65c_79 : Cond.methodLink RJx4a65c 79 Lib.Math.max.name ∈ gw := gw_at 206 (by decide +kernel) rfl
