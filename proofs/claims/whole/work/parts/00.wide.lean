/-! A name of the whole library, ahead of all parts: so the round reads over it from the start. -/
section Z00
theorem wide_0 (a : Int64) : Jvm.FP.Core.val64 (Jvm.FP.Core.l2d a) = Jvm.FP.Core.round Jvm.FP.Core.b64 (Jvm.FP.Core.ofInt a.toInt) := Jvm.FP.Core.val64_l2d a
end Z00
