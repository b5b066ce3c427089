/-! the text constants: ldc -/
section ML
variable {p : Program} {l : Launch} {e : Env} {R : Room} {s : State} {m : MethodId} {args : Array Value} {below : List Frame} {meth : Method} {c : Code} {Q : State → Prop} {XS : (Nat → Prop) → State → Prop} {lo hi : Nat} {cA : Nat → ClassId} {ad : mk_AD} {D : va_G} {tys : List (ClassId × FieldType)} {A : Nat → Prop} {bytes : ByteArray} {n : Nat} {ret : Option FieldType} {d : Nat}
theorem ms_ldcW (C : mk_Cx p R s m args meth c XS lo hi cA ad D tys A 5 bytes n ret d) {tx : String} (hx : vk_R "NumbersCalled$Tape" 96 tx (ad 63 0) s) {pc : Nat} {ls : mj_L} {st : List mj_V} {μ : mj_M} (hd : decode bytes pc = .ok (.ldc 96, 2)) (k : mk_W p l e R s m args below meth c Q lo hi cA ad D A n (pc + 2) ls (.inr (.inr (63, 0)) :: st) μ) : mk_W p l e R s m args below meth c Q lo hi cA ad D A n pc ls st μ := by
  obtain ⟨h1, h2, -, -, h5, -⟩ := C
  intro H locs Ls hR
  obtain ⟨r1, r2, r3, r4⟩ := hR
  exact va_ldcS h1 h2 (own := "NumbersCalled$Tape") h5 hx hd (k H locs Ls ⟨r1, r2, fun v hv => by
    rcases List.mem_cons.mp hv with q | q
    · rw [q]; exact Or.inr (by decide)
    · exact r3 v q, r4⟩)
end ML
