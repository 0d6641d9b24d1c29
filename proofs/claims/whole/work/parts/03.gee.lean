/-! ===== the pure memory, and the judgement over it ===== -/
abbrev gcl : List vw_C := [(RX0, TX0, 11), (RX1, TX1, 13), (RX2, TX2, 6), (RX3, TX3, 2), (RX4, TX4, 9), (RX5, TX5, 3), (RX6, TX6, 2), (RX7, TX7, 9), (RX8, TX8, 11), (RX9, TX9, 13), (RX10, TX10, 5), (RX11, TX11, 16), (RX12, TX12, 67)]
abbrev gSt : Type := Nat × (Nat → Nat × Nat)
abbrev gIt : Type := Nat → Nat → Int32
abbrev gJt : Type := Nat → Nat → Int64
abbrev gRt : Type := Nat → Nat → Option Nat
abbrev gMI : Type := MethodName × ByteArray × Nat × Option FieldType
abbrev gQt : Type := Option Value → gSt → gIt → gJt → gRt → Prop
/-- a cell's slot j is v now -/
def gu2 {α : Type} (f : Nat → Nat → α) (a j : Nat) (v : α) : Nat → Nat → α := fun x y => if x = a ∧ y = j then v else f x y
def gty (c : Nat) : Nat → FieldType := match c with
  | 0 => tyX0 | 1 => tyX1 | 2 => tyX2 | 3 => tyX3 | 4 => tyX4 | 5 => tyX5 | 6 => tyX6 | 7 => tyX7 | 8 => tyX8 | 9 => tyX9 | 10 => tyX10 | 11 => tyX11 | _ => tyX12
def gnf (c : Nat) : Nat := match c with
  | 0 => 11 | 1 => 13 | 2 => 6 | 3 => 2 | 4 => 9 | 5 => 3 | 6 => 2 | 7 => 9 | 8 => 11 | 9 => 13 | 10 => 5 | 11 => 16 | _ => 67
def gcv (b : Nat) (v : Value) : Value := match v with
  | .ref k => .ref (b + k)
  | w => w
/-- of a field's type: 0 an int, 1 a long, 2 a reference -/
def gkd (t : FieldType) : Nat := match t with
  | .long => 1
  | .object _ => 2
  | .array _ => 2
  | _ => 0
def gfv (b : Nat) (I : gIt) (J : gJt) (R : gRt) (a t j : Nat) : Value := if t = 0 then .int (I a j) else if t = 1 then .long (J a j) else va_rf ((R a j).map (b + ·))
def gfs (b : Nat) (I : gIt) (J : gJt) (R : gRt) (a c : Nat) : List Value := (List.range (gnf c)).map (fun j => gfv b I J R a (gkd (gty c j)) j)
def gar (b : Nat) (I : gIt) (J : gJt) (R : gRt) (a t : Nat) : ((Nat → Int32) ⊕ (Nat → Int64) ⊕ (Nat → UInt32) ⊕ (Nat → UInt64) ⊕ (Nat → Option Nat)) :=
  if t = 15 then .inr (.inl (J a)) else if 17 ≤ t then .inr (.inr (.inr (.inr (fun j => (R a j).map (b + ·))))) else .inl (I a)
def gce (b : Nat) (cA : Nat → ClassId) (S : gSt) (I : gIt) (J : gJt) (R : gRt) (a : Nat) : va_E :=
  if (S.2 a).1 < 13 then .inr ((S.2 a).1, gfs b I J R a (S.2 a).1) else .inl (cA (S.2 a).1, (S.2 a).2, gar b I J R a (S.2 a).1)
def gws (b : Nat) (cA : Nat → ClassId) (S : gSt) (I : gIt) (J : gJt) (R : gRt) : va_W := (List.range S.1).map (fun a => (b + a, gce b cA S I J R a))
/-- the arrays' classes: 13 bytes, 14 ints, 15 longs, 16 booleans, 17 Settlements, 18 rows of longs -/
def gtys (cA : Nat → ClassId) : List (ClassId × FieldType) := [(cA 13, .byte), (cA 14, .int), (cA 15, .long), (cA 16, .boolean), (cA 17, .object "HopeOffice$Settlement"), (cA 18, .array .long)]
def gtb : List Cond := lw_tbl.filter goodWord
theorem gtb_good : GoodIn gtb gtb := fun w hw => ⟨hw, good_of_word (List.mem_filter.mp hw).2⟩
theorem gtb_in {w : Cond} (i : Nat) (h : lw_tbl[i]? = some w) (hg : goodWord w = true) : w ∈ gtb := List.mem_filter.mpr ⟨List.mem_of_getElem? h, hg⟩
theorem gws_at {b : Nat} {cA : Nat → ClassId} {S : gSt} {I : gIt} {J : gJt} {R : gRt} {a : Nat} (h : a < S.1) : (gws b cA S I J R)[a]? = some (b + a, gce b cA S I J R a) := by
  simp [gws, h]
theorem gws_D {b : Nat} {cA : Nat → ClassId} {S : gSt} {I : gIt} {J : gJt} {R : gRt} : va_D (fun q => b ≤ q) (gws b cA S I J R) := by
  have key : ∀ (k : Nat) (q : Nat × va_E), (gws b cA S I J R)[k]? = some q → q.1 = b + k := by
    intro k q h
    simp only [gws, List.getElem?_map, Option.map_eq_some_iff, List.getElem?_eq_some_iff] at h
    obtain ⟨a, ⟨h1, h2⟩, h3⟩ := h
    simp at h2
    rw [← h3, ← h2]
  refine ⟨fun i j p q hi hj e => ?_, fun k q h => ?_⟩
  · have h1 := key i p hi
    have h2 := key j q hj
    omega
  · have h1 := key k q h
    show b ≤ q.1
    omega
/-- a cell of the world is another now: the memory that says so -/
theorem gws_set {b : Nat} {cA : Nat → ClassId} {S : gSt} {I I' : gIt} {J J' : gJt} {R R' : gRt} {a : Nat} {e : va_E} (h : a < S.1) (he : gce b cA S I' J' R' a = e) (ho : ∀ x, x ≠ a → gce b cA S I' J' R' x = gce b cA S I J R x) :
    (gws b cA S I J R).set a (b + a, e) = gws b cA S I' J' R' := by
  subst he
  apply List.ext_getElem?
  intro k
  rw [List.getElem?_set]
  by_cases hk : a = k
  · subst hk
    simp [gws, h]
  · rw [if_neg hk]
    simp only [gws, List.getElem?_map]
    cases hr : (List.range S.1)[k]? with
    | none => rfl
    | some x =>
      have : x = k := by
        simp only [List.getElem?_eq_some_iff, List.getElem_range] at hr
        obtain ⟨_, h2⟩ := hr
        exact h2.symm
      subst this
      simp [ho x (fun q => hk q.symm)]
theorem gu2_ne {α : Type} {f : Nat → Nat → α} {a j x : Nat} {v : α} (h : x ≠ a) : gu2 f a j v x = f x := by
  funext y
  simp [gu2, h]
theorem gce_ne {b : Nat} {cA : Nat → ClassId} {S : gSt} {I I' : gIt} {J J' : gJt} {R R' : gRt} {x : Nat} (h1 : I' x = I x) (h2 : J' x = J x) (h3 : R' x = R x) : gce b cA S I' J' R' x = gce b cA S I J R x := by
  unfold gce gfs gar gfv
  rw [h1, h2, h3]
/-- which locals are held: by their places, some v -/
def gLH (b : Nat) (ls : Array Slot) (n : Nat) (lv : List (Option Value)) : Prop := ls.size = n ∧ lv_wf ls ∧ ∀ (i : Nat) (v : Value), lv[i]? = some (some v) → ls[i]? = some (.val (gcv b v))
def gis2 (o : Option (Option Value)) : Bool := match o with
  | some (some (.long _)) => true
  | some (some (.double _)) => true
  | _ => false
def gcut (lv : List (Option Value)) (i : Nat) : List (Option Value) := match i with
  | 0 => lv
  | k + 1 => bif gis2 lv[k]? then lv.set k none else lv
def gst1 (lv : List (Option Value)) (i : Nat) (v : Value) : List (Option Value) := (gcut lv i).set i (some v)
def gst2 (lv : List (Option Value)) (i : Nat) (v : Value) : List (Option Value) := ((gcut lv i).set i (some v)).set (i + 1) none
def gpl (b : Nat) (lv : List (Option Value)) : List (Nat × Value) := (lv.zipIdx).filterMap (fun q => q.1.map (fun v => (q.2, gcv b v)))
theorem gpl_mem {b : Nat} {lv : List (Option Value)} {i : Nat} {w : Value} : (i, w) ∈ gpl b lv ↔ ∃ v, lv[i]? = some (some v) ∧ w = gcv b v := by
  unfold gpl
  rw [List.mem_filterMap]
  constructor
  · rintro ⟨⟨o, k⟩, h1, h2⟩
    rw [List.mem_zipIdx_iff_getElem?] at h1
    cases o with
    | none => simp at h2
    | some v =>
      simp at h2
      obtain ⟨rfl, rfl⟩ := h2
      exact ⟨v, h1, rfl⟩
  · rintro ⟨v, h1, rfl⟩
    exact ⟨(some v, i), List.mem_zipIdx_iff_getElem?.mpr h1, by simp⟩
theorem gLH_has {b : Nat} {ls : Array Slot} {n : Nat} {lv : List (Option Value)} (h : gLH b ls n lv) : lv_has ls n (gpl b lv) := by
  refine ⟨h.1, h.2.1, fun q hq => ?_⟩
  obtain ⟨i, w⟩ := q
  obtain ⟨v, h1, rfl⟩ := gpl_mem.mp hq
  exact h.2.2 i v h1
theorem gcv_cat (b : Nat) (v : Value) : (gcv b v).category = v.category := by cases v <;> rfl
theorem gis2_cat (v : Value) : gis2 (some (some v)) = decide (v.category = 2) := by cases v <;> rfl
theorem gcut_get {lv : List (Option Value)} {i j : Nat} {v : Value} (h : (gcut lv i)[j]? = some (some v)) : lv[j]? = some (some v) ∧ ¬ (j + 1 = i ∧ v.category = 2) := by
  cases i with
  | zero => exact ⟨h, by omega⟩
  | succ k =>
    replace h : (bif gis2 lv[k]? then lv.set k none else lv)[j]? = some (some v) := h
    cases hg : gis2 lv[k]? with
    | false =>
      rw [hg, cond_false] at h
      refine ⟨h, fun q => ?_⟩
      obtain ⟨q1, q2⟩ := q
      have e : j = k := by omega
      subst e
      rw [h, gis2_cat, decide_eq_false_iff_not] at hg
      exact hg q2
    | true =>
      rw [hg, cond_true, List.getElem?_set] at h
      by_cases e : k = j
      · rw [if_pos e] at h
        split at h <;> cases h
      · rw [if_neg e] at h
        exact ⟨h, fun q => e (by omega)⟩
theorem gLH_st1 {b : Nat} {ls' : Array Slot} {n i : Nat} {lv : List (Option Value)} {v : Value} (h' : lv_has ls' n ((i, gcv b v) :: (gpl b lv).filter (fun q => !(q.1 == i) && !(q.1 + 1 == i && q.2.category == 2)))) : gLH b ls' n (gst1 lv i v) := by
  refine ⟨h'.1, h'.2.1, fun j w hj => ?_⟩
  unfold gst1 at hj
  rw [List.getElem?_set] at hj
  by_cases e : i = j
  · subst e
    rw [if_pos rfl] at hj
    split at hj
    · cases hj
      exact h'.2.2 _ List.mem_cons_self
    · cases hj
  · rw [if_neg e] at hj
    obtain ⟨h1, h2⟩ := gcut_get hj
    refine h'.2.2 (j, gcv b w) (List.mem_cons_of_mem _ (List.mem_filter.mpr ⟨gpl_mem.mpr ⟨w, h1, rfl⟩, ?_⟩))
    have e1 : ¬ j = i := fun q => e q.symm
    rw [gcv_cat]
    by_cases e2 : j + 1 = i
    · have e3 : ¬ w.category = 2 := fun q => h2 ⟨e2, q⟩
      simp [e1, e3]
    · simp [e1, e2]
theorem gLH_st2 {b : Nat} {ls' : Array Slot} {n i : Nat} {lv : List (Option Value)} {v : Value} (h' : lv_has ls' n ((i, gcv b v) :: (gpl b lv).filter (fun q => !(q.1 == i) && (!(q.1 == i + 1) && !(q.1 + 1 == i && q.2.category == 2))))) : gLH b ls' n (gst2 lv i v) := by
  refine ⟨h'.1, h'.2.1, fun j w hj => ?_⟩
  unfold gst2 at hj
  rw [List.getElem?_set] at hj
  by_cases e0 : i + 1 = j
  · rw [if_pos e0] at hj
    split at hj <;> cases hj
  · rw [if_neg e0, List.getElem?_set] at hj
    by_cases e : i = j
    · subst e
      rw [if_pos rfl] at hj
      split at hj
      · cases hj
        exact h'.2.2 _ List.mem_cons_self
      · cases hj
    · rw [if_neg e] at hj
      obtain ⟨h1, h2⟩ := gcut_get hj
      refine h'.2.2 (j, gcv b w) (List.mem_cons_of_mem _ (List.mem_filter.mpr ⟨gpl_mem.mpr ⟨w, h1, rfl⟩, ?_⟩))
      have e1 : ¬ j = i := fun q => e q.symm
      have e4 : ¬ j = i + 1 := fun q => e0 q.symm
      rw [gcv_cat]
      by_cases e2 : j + 1 = i
      · have e3 : ¬ w.category = 2 := fun q => h2 ⟨e2, q⟩
        simp [e1, e3, e4]
      · simp [e1, e2, e4]
