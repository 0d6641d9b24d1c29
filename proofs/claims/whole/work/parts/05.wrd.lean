/-! ===== words of links ===== -/
/-- entry idx of the class own is field j of class c -/
def gFL (own : String) (idx c j : Nat) : Prop := c < 13 ∧ j < gnf c ∧ Cond.fieldLink own idx (gT c j).1 (gT c j).2.1 (gT c j).2.2.1 ∈ gtb
/-- what the tables say of a method that is no static one: its words, how many arguments -/
def gMV (mj : gMI) (na : Nat) : Prop := (Cond.instanceMethod mj.1 ∈ gtb ∧ Cond.selects mj.1.cls mj.1 mj.1 ∈ gtb ∧ Cond.initialized mj.1.cls ∈ gtb ∧ Cond.code mj.1 mj.2.1 mj.2.2.1 mj.2.2.2 ∈ gtb) ∧ (mj.1.cls ≠ "java/lang/invoke/MethodHandle" ∧ mj.1.cls ≠ "java/lang/invoke/VarHandle" ∧ (parseMethodDescriptor mj.1.desc).map (fun d => d.parameters.length) = some na) ∧ mj.2.2.1 ≤ 45
def gMS (mj : gMI) (na : Nat) : Prop := (Cond.static mj.1 ∈ gtb ∧ Cond.initialized mj.1.cls ∈ gtb ∧ Cond.code mj.1 mj.2.1 mj.2.2.1 mj.2.2.2 ∈ gtb) ∧ (mj.1.cls ≠ "java/lang/invoke/MethodHandle" ∧ mj.1.cls ≠ "java/lang/invoke/VarHandle" ∧ (parseMethodDescriptor mj.1.desc).map (fun d => d.parameters.length) = some na) ∧ mj.2.2.1 ≤ 45
