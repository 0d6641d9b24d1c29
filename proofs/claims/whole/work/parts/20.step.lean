/-! ===== the judgement G: from here the method ends with Q ===== -/
def gR (d mc ms : Nat) : Room := { frames := d, cells := mc, slots := ms, locals := 64 * d }
def gPost (b : Nat) (cA : Nat → ClassId) (D : va_G) (Q : gQt) : Array Value → State → Outcome → State → Prop := fun _ st o t =>
  (∃ (v : Option Value) (S : gSt) (I : gIt) (J : gJt) (R : gRt), o = .returned (v.map (gcv b)) ∧ Q v S I J R ∧ va_P D gcl (gws b cA S I J R) t.heap) ∧ va_F (fun q => b ≤ q) st t
/-- an array class's words, at any later state -/
def gAO (t : FieldType) (U : State) : Prop := (Cond.arrayOver t).before #[] U = true
theorem gAO_spec {t : FieldType} {U : State} (h : gAO (.array t) U) : ∃ comp c k, U.vm.findClass (FieldType.array t).toString = some comp ∧ (U.vm.classes.findIdx? fun (x : Class) => match x.kind with | .array component _ => component == comp | _ => false) = some c ∧ U.vm.classes[c]? = some k ∧ k.kind = .array comp (.array t) ∧ U.vm.findClass ("[" ++ (FieldType.array t).toString) = some c := by
  unfold gAO Cond.before at h
  simp only [Cond.holds, Cond.value, beq_iff_eq] at h
  cases hc : U.vm.findClass (FieldType.array t).toString with
  | none => simp [hc] at h
  | some comp =>
    simp only [hc, Option.bind_some, Option.bind_eq_some_iff, Option.map_eq_some_iff] at h
    obtain ⟨c, hi, k, hk, hb⟩ := h
    obtain ⟨hlt, hp, -⟩ := Array.findIdx?_eq_some_iff_getElem.mp hi
    have hkk : U.vm.classes[c] = k := (Array.getElem?_eq_some_iff.mp hk).2
    rw [hkk] at hp
    cases hkind : k.kind with
    | array component ty =>
      rw [hkind] at hb hp
      simp at hb hp
      exact ⟨comp, c, k, rfl, hi, hk, by rw [hkind, hp, hb.1], hb.2⟩
    | _ => rw [hkind] at hb; simp at hb
theorem gAO_moved {t : FieldType} {u U : State} (hvm : u.vm.Alike U.vm) (h : gAO (.array t) u) : gAO (.array t) U := by
  obtain ⟨comp, c, k, h1, h2, h3, h4, h5⟩ := gAO_spec h
  obtain ⟨k', hk', he⟩ := hvm.2.2 _ _ h3
  have hi : (U.vm.classes.findIdx? fun (x : Class) => match x.kind with | .array component _ => component == comp | _ => false) = some c := by
    have e1 := va_idx_bare U.vm comp
    have e2 := va_idx_bare u.vm comp
    have e3 : U.vm.bare = u.vm.bare := by first | exact hvm.bare_eq | exact hvm.bare_eq.symm
    rw [e3] at e1
    exact e1.symm.trans (e2.trans h2)
  have hkind : k'.kind = .array comp (.array t) := by rw [he]; exact h4
  have f1 : U.vm.findClass (FieldType.array t).toString = some comp := by rw [hvm.findClass]; exact h1
  have f2 : U.vm.findClass ("[" ++ (FieldType.array t).toString) = some c := by rw [hvm.findClass]; exact h5
  unfold gAO Cond.before Cond.holds
  simp only [Cond.value]
  rw [f1, Option.bind_some]
  refine (congrArg (fun o : Option Nat => (o.bind (fun c => (U.vm.classes[c]?).map fun (k : Class) => match k.kind with | .array _ ty => decide (ty = FieldType.array t) && decide (U.vm.findClass ("[" ++ (FieldType.array t).toString) = some c) | _ => false) == some true)) hi).trans ?_
  simp [hk', hkind, f2]
/-- what the tables say of a state: classes, arrays, nest mates -/
def gKK (D : va_G) (cA : Nat → ClassId) (U : State) : Prop := va_K D gcl (gtys cA) U ∧ (∀ (o : String) (i : Nat) (y : MethodName) (h : String), Cond.methodLinkNest o i y h ∈ lw_tbl → va_Nw (.methodLinkNest o i y h) U) ∧ va_AO "HopeOffice$Settlement" U ∧ gAO (.array .long) U
theorem gKK.warm {D : va_G} {cA : Nat → ClassId} {s U : State} (hW : s.WarmedH U.vm) (h : gKK D cA s) : gKK D cA U := ⟨va_K.moved hW.alike h.1, fun o i y z hm => va_Nw.warmM hW (h.2.1 o i y z hm), va_AO.moved hW.alike h.2.2.1, gAO_moved hW.alike h.2.2.2⟩
theorem gKK.same {D : va_G} {cA : Nat → ClassId} {s U : State} (hW : s.vm = U.vm) (h : gKK D cA s) : gKK D cA U := by
  have hA : s.vm.Alike U.vm := by rw [hW]; exact Vm.Alike.refl U.vm
  exact ⟨va_K.moved hA h.1, fun o i y z hm => va_Nw.same rfl hW (h.2.1 o i y z hm), va_AO.moved hA h.2.2.1, gAO_moved hA h.2.2.2⟩
/-- where a method stands: the machine, its own tables, the world, the locals -/
def gX (b : Nat) (cA : Nat → ClassId) (D : va_G) (mi : gMI) (k : Nat) (p : Program) (s : State) (m : MethodId) (args : Array Value) (meth : Method) (c : Code) (H : Heap) (locs : List Loc) (ls : Array Slot) (lv : List (Option Value)) (S : gSt) (I : gIt) (J : gJt) (R : gRt) : Prop :=
  (p.tables.exec = Jvm.exec ∧ c.code = mi.2.1 ∧ meth.sig.returnType = mi.2.2.2 ∧ c.maxLocals = mi.2.2.1 ∧ s.vm.findClass mi.1.cls = some m.cls ∧ (∀ w ∈ gtb, w.before args s = true) ∧ meth.locks = false ∧ meth.name = mi.1.name ∧ gKK D cA s ∧ b ≤ s.heap.size) ∧
  (s.heap.size + k ≤ b + S.1 ∧ va_P D gcl (gws b cA S I J R) H ∧ va_S (fun q => b ≤ q) s.heap H locs ∧ gLH b ls mi.2.2.1 lv)
def G (l : Launch) (mi : gMI) (d mc ms : Nat) (Q : gQt) (k n pc : Nat) (lv : List (Option Value)) (st : List Value) (S : gSt) (I : gIt) (J : gJt) (R : gRt) : Prop :=
  ∀ (b : Nat) (cA : Nat → ClassId) (D : va_G) (p : Program) (e : Env) (s : State) (m : MethodId) (args : Array Value) (below : List Frame) (meth : Method) (c : Code) (H : Heap) (locs : List Loc) (ls : Array Slot),
    gX b cA D mi k p s m args meth c H locs ls lv S I J R →
    W p l e (gR d mc ms) s m args below meth c H locs k n (MQ below (gPost b cA D Q) args s mc ms (fun q => b ≤ q)) (F0 m pc ls (st.map (gcv b)))
def gw (mi : gMI) : List Cond := .code mi.1 mi.2.1 mi.2.2.1 mi.2.2.2 :: gtb
/-- a method's contract -/
def Cn (l : Launch) (mi : gMI) (d mc ms : Nat) (as : List Value) (S : gSt) (I : gIt) (J : gJt) (R : gRt) (Q : gQt) : Prop :=
  ∀ (b : Nat) (cA : Nat → ClassId) (D : va_G), Met l mi.1 (gw mi) (gR d mc ms) (va_Pc (as.map (gcv b)) (fun U => U.heap.size ≤ b + S.1 ∧ b ≤ U.heap.size ∧ va_P D gcl (gws b cA S I J R) U.heap ∧ gKK D cA U)) (gPost b cA D Q) mc ms (fun q => b ≤ q)
def gent (as : List Value) (n : Nat) : List (Option Value) := let l := as.flatMap (fun v => bif gis2 (some (some v)) then [some v, none] else [some v]); l ++ List.replicate (n - l.length) none
theorem gent_args (b : Nat) : ∀ (as : List Value) (k j : Nat) (v : Value), (as.flatMap (fun v => bif gis2 (some (some v)) then [some v, none] else [some v]))[j]? = some (some v) → (k + j, gcv b v) ∈ lv_args k (as.map (gcv b))
  | [], k, j, v, h => by simp at h
  | w :: r, k, j, v, h => by
    rw [List.flatMap_cons] at h
    show (k + j, gcv b v) ∈ (k, gcv b w) :: lv_args (if (gcv b w).category = 2 then k + 2 else k + 1) (r.map (gcv b))
    rw [gcv_cat]
    cases hg : gis2 (some (some w)) with
    | false =>
      rw [hg, cond_false] at h
      rw [gis2_cat, decide_eq_false_iff_not] at hg
      rw [if_neg hg]
      cases j with
      | zero =>
        simp at h
        subst h
        exact List.mem_cons_self
      | succ j =>
        have h2 := gent_args b r (k + 1) j v (by simpa using h)
        rw [show k + (j + 1) = k + 1 + j by omega]
        exact List.mem_cons_of_mem _ h2
    | true =>
      rw [hg, cond_true] at h
      rw [gis2_cat, decide_eq_true_iff] at hg
      rw [if_pos hg]
      match j, h with
      | 0, h =>
        simp at h
        subst h
        exact List.mem_cons_self
      | 1, h => simp at h
      | j + 2, h =>
        have h2 := gent_args b r (k + 2) j v (by simpa using h)
        rw [show k + (j + 2) = k + 2 + j by omega]
        exact List.mem_cons_of_mem _ h2
theorem gent_len (b : Nat) (as : List Value) : (lg_sl (as.map (gcv b))).length = (as.flatMap (fun v => bif gis2 (some (some v)) then [some v, none] else [some v])).length := by
  induction as with
  | nil => rfl
  | cons v r ih =>
    simp only [lg_sl, List.map_cons, List.flatMap_cons, List.length_append, gcv_cat] at ih ⊢
    rw [ih, gis2_cat]
    by_cases h : v.category = 2 <;> simp [h]
/-- A METHOD's CONTRACT OUT OF ITS WALK -/
theorem Cn.of {l : Launch} {mi : gMI} {d mc ms : Nat} {as : List Value} {S : gSt} {I : gIt} {J : gJt} {R : gRt} {Q : gQt} (lv : List (Option Value)) (hp : plainName mi.1.cls = true) (hlv : gent as mi.2.2.1 = lv) (hle : (as.flatMap (fun v => bif gis2 (some (some v)) then [some v, none] else [some v])).length ≤ mi.2.2.1) (h : G l mi d mc ms Q 0 0 0 lv [] S I J R) : Cn l mi d mc ms as S I J R Q := by
  intro b cA D
  refine Met.ofW (cc := mi.2.1) (maxL := mi.2.2.1) (ret := mi.2.2.2) hp rfl ?_
  intro p e s m args below meth c s₁ B hml hv
  obtain ⟨rfl, hsz, hbs, hP, hK⟩ := hv
  have hts := atoms_spec (ws := gw mi) B.pre
  have hown : s.vm.findClass mi.1.cls = some m.cls := findClass_of_methodNamed B.named
  have hin : meth.name = mi.1.name := (name_of_methodNamed B.named B.method).1
  have hl := lv_entry (as.map (gcv b)) (n := mi.2.2.1) (by rw [gent_len]; exact hle)
  rw [lg_entry_eq]
  generalize (lg_sl (as.map (gcv b)) ++ List.replicate (mi.2.2.1 - (lg_sl (as.map (gcv b))).length) Slot.unset).toArray = ls at hl ⊢
  refine h b cA D p e s m _ below meth c s.heap [] ls ⟨⟨B.exec, B.bytes, B.returns, hml, hown, fun w hw => hts w (List.mem_cons_of_mem _ hw), B.notSynchronized, hin, hK, hbs⟩, by omega, hP, va_S.rf, hl.1, hl.2.1, fun i v hi => ?_⟩
  rw [← hlv] at hi
  unfold gent at hi
  simp only [List.getElem?_append] at hi
  split at hi
  · have := gent_args b as 0 i v hi
    rw [Nat.zero_add] at this
    exact hl.2.2 _ this
  · simp only [List.getElem?_replicate] at hi
    split at hi <;> cases hi
