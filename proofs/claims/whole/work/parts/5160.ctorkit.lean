theorem ar_aI (N : Nat) (cA : ClassId) : vp_cell cA (N, .inl (fun _ => 0)) = arrV cA N (fun _ => defaultValue .int) := rfl
theorem ar_aB (N : Nat) (cA : ClassId) : vp_cell cA (N, .inl (fun _ => 0)) = arrV cA N (fun _ => defaultValue .byte) := rfl
theorem ar_aZ (N : Nat) (cA : ClassId) : vp_cell cA (N, .inl (fun _ => 0)) = arrV cA N (fun _ => defaultValue .boolean) := rfl
theorem ar_aJ (N : Nat) (cA : ClassId) : vp_cell cA (N, .inr (.inl (fun _ => 0))) = arrV cA N (fun _ => defaultValue .long) := rfl
theorem ra_aI (s : State) (cA : ClassId) : va_RA s cA .int = (s.vm.findClass ("[" ++ FieldType.int.toString) = some cA) := rfl
theorem ra_aB (s : State) (cA : ClassId) : va_RA s cA .byte = (s.vm.findClass ("[" ++ FieldType.byte.toString) = some cA) := rfl
theorem ra_aZ (s : State) (cA : ClassId) : va_RA s cA .boolean = (s.vm.findClass ("[" ++ FieldType.boolean.toString) = some cA) := rfl
theorem ra_aJ (s : State) (cA : ClassId) : va_RA s cA .long = (s.vm.findClass ("[" ++ FieldType.long.toString) = some cA) := rfl
