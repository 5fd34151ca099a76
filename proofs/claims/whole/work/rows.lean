section
def start1.cRog : Class := { cArr "[R" 22 .int with super := none }
def start1.rogue : State := { about with vm := { about.vm with classes := about.vm.classes.push cRog }, heap := about.heap.setIfInBounds 5 { cls := 31, slots := #[.int (4), .int (3), .int (5), .int (500), .int (20), .int (10), .int (10)], vm := .none } }
theorem start1.r_named : (rogue.methodNamed? ⟨"java/lang/Object", "clone", "()Ljava/lang/Object;"⟩).isSome = true := by decide +kernel
theorem start1.r_sel : (match rogue.methodNamed? ⟨"java/lang/Object", "clone", "()Ljava/lang/Object;"⟩ with
  | some m => (match selectMethod e0.platform rogue.vm 31 m with | .none => true | _ => false)
  | none => false) = true := by decide +kernel
theorem start1.a_sel : (match about.methodNamed? ⟨"java/lang/Object", "clone", "()Ljava/lang/Object;"⟩ with
  | some m => (match selectMethod e0.platform about.vm 23 m with | .method m2 => m2 == m | _ => false)
  | none => false) = true := by decide +kernel
end
