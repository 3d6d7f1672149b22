/-! arrays of arrays of t are known to the machine (the printed row va_mna speaks of it) -/
section AOA
def va_AOA (t : FieldType) (U : State) : Prop := (Cond.arrayOver (.array t)).before #[] U = true
theorem va_AOA.use {t : FieldType} {As : Array Value} {U : State} (h : va_AOA t U) : (Cond.arrayOver (.array t)).before As U = true := h
theorem f_aoa {t : FieldType} {As : Array Value} {U : State} (h : (Cond.arrayOver (.array t)).before As U = true) : va_AOA t U := h
theorem f_aoa_warm {t : FieldType} {u U : State} (hv : u.vm.Alike U.vm) (h : va_AOA t u) : va_AOA t U := Jvm.Stand.arrayOver_alikeB hv h
end AOA
