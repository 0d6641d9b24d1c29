/-! THE CLAIM OUT OF ONE WALK OF THE LAW'S BODY. Your part is whole_start (and what it stands on); all else here is the same for every law, but numbers. -/
def R_law : String := "HopeOfficeLaw"
def lw_P (b : Addr) (xs : List Int32) (args : Array Value) (s : State) : Prop := args = #[.ref b] ∧ s.IntsAt b xs ∧ xs.length ≤ 3584 ∧ (Jvm.Cond.and given_1 narrow_1).before args s = true
def lw_Q (_ : Array Value) (s : State) (o : Outcome) (t : State) : Prop := o = .returned (some (.int 1)) ∧ Framed s o t [] 600000 7302249
def lw_Z (below : List Frame) (a : Array Value) (s : State) : State → Prop := fun t => ∃ o, t.status = .running ∧ Ended t below o ∧ lw_Q a s o t
/-- the law's own end, with 1 on the stack, nothing written that was there before, its room as the claim has it -/
theorem lw_ret {p : Program} {l : Launch} {e : Env} {s : State} {m : MethodId} {below : List Frame} {meth : Method} {c : Code} {b : Nat} (hx : p.tables.exec = Jvm.exec) (hb : c.code = code) (hr : meth.sig.returnType = ret) (hlocks : meth.locks = false) {pc : Nat} {H : Heap} {ls : Array Slot} (hdg : decode code pc = .ok (.ireturn, 1)) : W p l e room_1 s m #[Value.ref b] below meth c H [] 600000 7302249 (lw_Z below #[Value.ref b] s) (F0 m pc ls [.int 1]) := by
  intro T hT X
  obtain ⟨fs, hret, hrun, hended, hW, hframe⟩ := X.leave (v := some (.int 1)) (hlocks := hlocks) (fun h => by rw [hr] at h; cases h)
  have hmeth' : T.vm.method? m = some meth := X.method'
  refine ⟨T.setFrames fs, ?_, .returned (some (.int 1)), hrun, hended, rfl, ⟨_, rfl⟩, hW, hframe⟩
  jvm_step X.here [X.here.top, hx, hb, hdg, hmeth', hr, ret, narrow_b1]
  (try refine ⟨rfl, ?_⟩); (try refine ⟨rfl, ?_⟩)
  first | (intro acts; rw [hret _ acts rfl rfl rfl]) | rw [hret _ _ rfl rfl rfl]
  exact Steps.refl _
/-- what holds at the law's entry: the machine, the code, the tables' words (any of lw_tbl by 'hts w (by decide +kernel)'), the script of L ints xs at the cell b, what the Statement gives of the start (any of its parts by flat_of_before) -/
def lw_At (p : Program) (s : State) (m : MethodId) (meth : Method) (c : Code) (b L : Nat) (xs : Nat → Int32) : Prop :=
  p.tables.exec = Jvm.exec ∧ c.code = code ∧ meth.sig.returnType = ret ∧ c.maxLocals = 4 ∧ s.vm.findClass R_law = some m.cls ∧ (∀ w ∈ lw_tbl, w.before #[Value.ref b] s = true) ∧ va_X b L xs s s.heap ∧ b < s.heap.size ∧ meth.locks = false ∧ (Jvm.Cond.and given_1 narrow_1).before #[Value.ref b] s = true
section LW
variable {p : Program} {l : Launch} {e : Env} {s : State} {m : MethodId} {below : List Frame} {meth : Method} {c : Code} {bs : Nat} {D : va_G} {cA : Nat → ClassId} {H : Heap} {locs : List Loc} {ls : Array Slot} {Qf : State → Prop} {pc : Nat} {mj : gMI} {na idx a c0 d' : Nat} {As rest : List Value}
theorem L_callV {V : Option Value} {I I1 : gIt} {J J1 : gJt} {R R1 : gRt} (hx : p.tables.exec = Jvm.exec) (hb : c.code = code) (hml : c.maxLocals = 4) (hown : s.vm.findClass R_law = some m.cls) (hts : ∀ w ∈ lw_tbl, w.before #[Value.ref bs] s = true) (hK : gKK D cA s) (hP : va_P D gcl (gws s.heap.size cA gS0 I J R) H) (hS : va_S (fun q => s.heap.size ≤ q) s.heap H locs) (hls : ls.size = 4)
    (hl : Cond.methodLink RL idx mj.1 ∈ gtb) (hj : gMV mj na) (ha : a < gS0.1) (hs : (gS0.2 a).1 = c0) (hc0 : c0 < 13) (hcc : gC c0 = mj.1.cls) (hn : As.length = na) (hAs : ∀ b, As.map (gcv b) = As) (hro : (rest.map fun v => v.category).sum ≤ 8) (hd' : d' ≤ 1000) (hd : decode code pc = .ok (.invokevirtual idx, 3))
    (hC : Cn l mj d' 0 0 (.ref a :: As) gS0 I J R (fun v' S' I' J' R' => v' = V ∧ S' = gS0 ∧ I' = I1 ∧ J' = J1 ∧ R' = R1)) (hV : ∀ b, V.map (gcv b) = V)
    (kk : ∀ (H1 : Heap) (locs1 : List Loc), va_P D gcl (gws s.heap.size cA gS0 I1 J1 R1) H1 → va_S (fun q => s.heap.size ≤ q) s.heap H1 locs1 → W p l e room_1 s m #[Value.ref bs] below meth c H1 locs1 194 9309 Qf (F0 m (pc + 3) ls (V.toList ++ rest))) :
    W p l e room_1 s m #[Value.ref bs] below meth c H locs 194 9309 Qf (F0 m pc ls (As.reverse ++ .ref (s.heap.size + a) :: rest)) := by
  intro T hT Xs
  have hz1 : H.size ≤ s.heap.size + gS0.1 := by
    have := Xs.heapSize
    rw [hT] at this
    exact this
  have htg : ∀ w ∈ gtb, w.before #[Value.ref bs] s = true := fun w hw => hts w (List.mem_filter.mp hw).1
  have hrun : va_Run p l e room_1 s m #[Value.ref bs] below meth c H locs 194 9309 0 0 (F0 m pc ls (As.reverse ++ .ref (s.heap.size + a) :: rest)) rest _ (fun q => s.heap.size ≤ q) :=
    va_runV (C := mj.1.cls) (b := s.heap.size + a) (As := As) (bytes := mj.2.1) (maxL := mj.2.2.1) (ret := mj.2.2.2) (n := na) ⟨hx, hb, hml, hown, htg⟩ (hC s.heap.size cA D) ⟨callB_of na htg (gw_good hj.1.2.2.2) rfl rfl rfl (htg _ hj.1.2.2.1) (htg _ hl) hj.2.1 ⟨by show d' + 1 ≤ 2048; omega, by have := hj.2.2; show 8 + (mj.2.2.1 + 11) + 64 * d' ≤ 84000; omega⟩, htg _ hj.1.1, htg _ hj.1.2.1⟩ ⟨gPc_blind, by rw [← hcc]; exact va_recv hK.1 hP (gcl_at c0 hc0) (gws_obj ha hs hc0), fun U hU hW => ⟨by rw [List.map_cons, hAs]; rfl, by rw [hU]; exact hz1, by rw [hU]; exact hS.1, by rw [hU]; exact hP, hK.warm hW⟩⟩ rfl hn hls rfl (lv_room hro) hd ⟨by decide, by decide⟩
  obtain ⟨v, st₀, t, T', L, h0, X', hL, e1, e2, ⟨⟨v', S', I', J', R', hv, ⟨g1, g2, g3, g4, g5⟩, hP'⟩, hz, hk⟩, st⟩ := hrun T hT Xs
  cases hv
  rw [h0] at hz hk
  rw [g2, g3, g4, g5] at hP'
  obtain ⟨t2, a1, b1⟩ := kk T'.heap (locs ++ L) (by rw [e1]; exact hP') ⟨Nat.le_trans hS.1 (by rw [e1]; exact hz), fun q h1 h2 => by rw [e1, hk q (Nat.lt_of_lt_of_le h1 hS.1) h2]; exact hS.2.1 q h1 h2, fun q hq => by
      rcases List.mem_append.mp hq with h | h
      · exact hS.2.2 q h
      · exact hL q h⟩ T' rfl X'
  refine ⟨t2, st t2 ?_, b1⟩
  rw [g1, hV]
  exact a1
theorem lin {L q : Nat} (hL : L ≤ 3584) (hq : 7 * q + 7 ≤ L) (j : Nat) (hj : j < 7) {z : Int32} (hz : nI j = z) : vp_in (nI (7 * q) + z) L := by
  rw [← hz, nI_add]
  exact vp_in_nI (by omega) (by omega)
theorem lin0 {L q : Nat} (hL : L ≤ 3584) (hq : 7 * q + 7 ≤ L) : vp_in (nI (7 * q)) L := vp_in_nI (by omega) (by omega)
end LW
def EE_0 (Inv : gIt → gJt → Bool → Prop) : Prop := ∀ (I : gIt) (J : gJt) (w : Bool) (x1 : Int32), Inv I J w → ∃ v1, p_X11_now I x1 = some v1 ∧ ∃ v2, p_X12_now v1.2 x1 = some v2 ∧ v1.1 = v2.1 ∧ Inv v2.2 J w
def EE_1 (Inv : gIt → gJt → Bool → Prop) : Prop := ∀ (I : gIt) (J : gJt) (w : Bool) (x1 : Int32) (x2 : Int32), Inv I J w → ∃ v1, p_X11_person I x1 x2 = some v1 ∧ ∃ v2, p_X12_person v1.2 x1 x2 = some v2 ∧ v1.1 = v2.1 ∧ Inv v2.2 J w
def EE_2 (Inv : gIt → gJt → Bool → Prop) : Prop := ∀ (I : gIt) (J : gJt) (w : Bool) (x1 : Int32) (x2 : Int32), Inv I J w → ∃ v1, p_X11_dies I x1 x2 = some v1 ∧ ∃ v2, p_X12_dies v1.2 x1 x2 = some v2 ∧ v1.1 = v2.1 ∧ Inv v2.2 J w
def EE_3 (Inv : gIt → gJt → Bool → Prop) : Prop := ∀ (I : gIt) (J : gJt) (w : Bool) (x1 : Int32) (x2 : Int32) (x3 : Int32), Inv I J w → ∃ v1, p_X11_table I x1 x2 x3 = some v1 ∧ ∃ v2, p_X12_table v1.2 x1 x2 x3 = some v2 ∧ v1.1 = v2.1 ∧ Inv v2.2 J w
def EE_4 (Inv : gIt → gJt → Bool → Prop) : Prop := ∀ (I : gIt) (J : gJt) (w : Bool) (x1 : Int32) (x2 : Int32), Inv I J w → ∃ v1, p_X11_lives I x1 x2 = some v1 ∧ ∃ v2, p_X12_lives I x1 x2 = some v2 ∧ v1 = v2 ∧ Inv I J w
def EE_5 (Inv : gIt → gJt → Bool → Prop) : Prop := ∀ (I : gIt) (J : gJt) (w : Bool) (x1 : Int32) (x2 : Int32), Inv I J w → ∃ v1, p_X11_number I x1 x2 = some v1 ∧ ∃ v2, p_X12_number v1.2 x1 x2 = some v2 ∧ v1.1 = v2.1 ∧ Inv v2.2 J w
def EE_6 (Inv : gIt → gJt → Bool → Prop) : Prop := ∀ (I : gIt) (J : gJt) (w : Bool) (x1 : Int32), Inv I J w → ∃ v1, p_X11_discount I x1 = some v1 ∧ ∃ v2, p_X12_discount I x1 = some v2 ∧ v1 = v2 ∧ Inv I J w
def EE_7 (Inv : gIt → gJt → Bool → Prop) : Prop := ∀ (I : gIt) (J : gJt) (w : Bool) (x1 : Int32) (x2 : Int32) (x3 : Int32) (x4 : Int32) (x5 : Int32), Inv I J w → ∃ v1, p_X11_feed I x1 x2 x3 x4 x5 = some v1 ∧ ∃ v2, p_X12_feed v1.2 x1 x2 x3 x4 x5 = some v2 ∧ v1.1 = v2.1 ∧ Inv v2.2 J w
def EE_8 (Inv : gIt → gJt → Bool → Prop) : Prop := ∀ (I : gIt) (J : gJt) (w : Bool) (x1 : Int32) (x2 : Int32) (x3 : Int32) (x4 : Int32), Inv I J w → ∃ v1, p_X11_settle I x1 x2 x3 x4 = some v1 ∧ ∃ v2, p_X12_settle v1.2 x1 x2 x3 x4 = some v2 ∧ v1.1 = v2.1 ∧ Inv v2.2 J w
def EE_9 (Inv : gIt → gJt → Bool → Prop) : Prop := ∀ (I : gIt) (J : gJt) (w : Bool) (x1 : Int32) (x2 : Int32), Inv I J w → ∃ v1, p_X11_named I x1 x2 = some v1 ∧ ∃ v2, p_X12_named v1.2 x1 x2 = some v2 ∧ v1.1 = v2 ∧ Inv v1.2 J w
def EE_10 (Inv : gIt → gJt → Bool → Prop) : Prop := ∀ (I : gIt) (J : gJt) (w : Bool) (x1 : Int32) (x2 : Int32) (x3 : Int32), Inv I J w → ∃ v1, p_X11_falls I x1 x2 x3 = some v1 ∧ ∃ v2, p_X12_falls v1.2 x1 x2 x3 = some v2 ∧ v1.1 = v2.1 ∧ Inv v2.2 J w
def EE_11 (Inv : gIt → gJt → Bool → Prop) : Prop := ∀ (I : gIt) (J : gJt) (w : Bool) (x1 : Int32) (x2 : Int32) (x3 : Int32) (x4 : Int32) (x5 : Int32), Inv I J w → ∃ v1, p_X11_chance I J x1 x2 x3 x4 x5 = some v1 ∧ ∃ v2, p_X12_chance v1.2.1 v1.2.2 x1 x2 x3 x4 x5 = some v2 ∧ v1.1 = v2.1 ∧ Inv v2.2.1 v2.2.2 w
def EE_12 (Inv : gIt → gJt → Bool → Prop) : Prop := ∀ (I : gIt) (J : gJt) (w : Bool) (x1 : Int32) (x2 : Int32) (x3 : Int32) (x4 : Int32), Inv I J w → ∃ v1, p_X11_worth I J x1 x2 x3 x4 = some v1 ∧ ∃ v2, p_X12_worth v1.2.1 v1.2.2 x1 x2 x3 x4 = some v2 ∧ v1.1 = v2.1 ∧ Inv v2.2.1 v2.2.2 w
def EE_13 (Inv : gIt → gJt → Bool → Prop) : Prop := ∀ (I : gIt) (J : gJt) (w : Bool) (x1 : Int32) (x2 : Int32) (x3 : Int32) (x4 : Int32) (x5 : Int32) (x6 : Int32), Inv I J w → (x6 = 0 ∨ x6 = 1) → ∃ v1, p_X11_sale I x1 x2 x3 x4 x5 x6 = some v1 ∧ ∃ v2, p_X12_sale v1.2 x1 x2 x3 x4 x5 x6 = some v2 ∧ v1.1 = v2.1 ∧ Inv v2.2 J w
def EE_14 (Inv : gIt → gJt → Bool → Prop) : Prop := ∀ (I : gIt) (J : gJt) (w : Bool) (x1 : Int32) (x2 : Int32), Inv I J w → ∃ v1, p_X11_notice I x1 x2 = some v1 ∧ ∃ v2, p_X12_notice v1.2 x1 x2 = some v2 ∧ v1.1 = v2.1 ∧ Inv v2.2 J w
def EE_15 (Inv : gIt → gJt → Bool → Prop) : Prop := ∀ (I : gIt) (J : gJt) (w : Bool) (x1 : Int32) (x2 : Int32) (x3 : Int32) (x4 : Int32), Inv I J w → ∃ v1, p_X11_charge I x1 x2 x3 x4 = some v1 ∧ ∃ v2, p_X12_charge v1.2 x1 x2 x3 x4 = some v2 ∧ v1.1 = v2.1 ∧ Inv v2.2 J w
def EE_16 (Inv : gIt → gJt → Bool → Prop) : Prop := ∀ (I : gIt) (J : gJt) (w : Bool) (x1 : Int32), Inv I J w → ∃ v1, p_X11_act I w x1 = some v1 ∧ ∃ v2, p_X12_act v1.2.1 x1 = some v2 ∧ v1.1 = v2.1 ∧ Inv v2.2 J v1.2.2
def EE_17 (Inv : gIt → gJt → Bool → Prop) : Prop := ∀ (I : gIt) (J : gJt) (w : Bool) (x1 : Int32), Inv I J w → ∃ v1, p_X11_hard I J w x1 = some v1 ∧ ∃ v2, p_X12_hard v1.2.1 v1.2.2 x1 = some v2 ∧ v1.1 = v2.1 ∧ Inv v2.2.1 v2.2.2 w
def EE_18 (Inv : gIt → gJt → Bool → Prop) : Prop := ∀ (I : gIt) (J : gJt) (w : Bool) (x1 : Int32), Inv I J w → ∃ v1, p_X11_undo I J w x1 = some v1 ∧ ∃ v2, p_X12_undo v1.2.1 v1.2.2 x1 = some v2 ∧ v1.1 = v2.1 ∧ Inv v2.2.1 v2.2.2 w
def EE_19 (Inv : gIt → gJt → Bool → Prop) : Prop := ∀ (I : gIt) (J : gJt) (w : Bool) (x1 : Int32) (x2 : Int32) (x3 : Int32) (x4 : Int32), Inv I J w → (x4 = 0 ∨ x4 = 1) → ∃ v1, p_X11_least I J w x1 x2 x3 x4 = some v1 ∧ ∃ v2, p_X12_least v1.2.1 v1.2.2 x1 x2 x3 x4 = some v2 ∧ v1.1 = v2.1 ∧ Inv v2.2.1 v2.2.2 w
def EE_20 (Inv : gIt → gJt → Bool → Prop) : Prop := ∀ (I : gIt) (J : gJt) (w : Bool) (x1 : Int32) (x2 : Int32) (x3 : Int32), Inv I J w → ∃ v1, p_X11_cover I x1 x2 x3 = some v1 ∧ ∃ v2, p_X12_cover I x1 x2 x3 = some v2 ∧ v1 = v2 ∧ Inv I J w
def EE_21 (Inv : gIt → gJt → Bool → Prop) : Prop := ∀ (I : gIt) (J : gJt) (w : Bool) (x1 : Int32) (x2 : Int32) (x3 : Int32), Inv I J w → ∃ v1, p_X11_gain I x1 x2 x3 = some v1 ∧ ∃ v2, p_X12_gain v1.2 x1 x2 x3 = some v2 ∧ v1.1 = v2.1 ∧ Inv v2.2 J w
def EE_22 (Inv : gIt → gJt → Bool → Prop) : Prop := ∀ (I : gIt) (J : gJt) (w : Bool) (x1 : Int32) (x2 : Int32) (x3 : Int32) (x4 : Int32), Inv I J w → ∃ v1, p_X11_paid I x1 x2 x3 x4 = some v1 ∧ ∃ v2, p_X12_paid v1.2 x1 x2 x3 x4 = some v2 ∧ v1.1 = v2.1 ∧ Inv v2.2 J w
def EE_23 (Inv : gIt → gJt → Bool → Prop) : Prop := ∀ (I : gIt) (J : gJt) (w : Bool) (x1 : Int32) (x2 : Int32), Inv I J w → ∃ v1, p_X11_holds I x1 x2 = some v1 ∧ ∃ v2, p_X12_holds v1.2 x1 x2 = some v2 ∧ v1.1 = v2.1 ∧ Inv v2.2 J w
def EE_24 (Inv : gIt → gJt → Bool → Prop) : Prop := ∀ (I : gIt) (J : gJt) (w : Bool) (x1 : Int32) (x2 : Int32), Inv I J w → ∃ v1, p_X11_papers I x1 x2 = some v1 ∧ ∃ v2, p_X12_papers v1.2 x1 x2 = some v2 ∧ v1.1 = v2.1 ∧ Inv v2.2 J w
def EE_25 (Inv : gIt → gJt → Bool → Prop) : Prop := ∀ (I : gIt) (J : gJt) (w : Bool), Inv I J w → ∃ v1, p_X11_falseOnes I = some v1 ∧ ∃ v2, p_X12_falseOnes I = some v2 ∧ v1 = v2 ∧ Inv I J w
def EE_26 (Inv : gIt → gJt → Bool → Prop) : Prop := ∀ (I : gIt) (J : gJt) (w : Bool) (x1 : Int32) (x2 : Int32), Inv I J w → ∃ v1, p_X11_look I x1 x2 = some v1 ∧ ∃ v2, p_X12_look I x1 x2 = some v2 ∧ v1 = v2 ∧ Inv I J w
def EE_27 (Inv : gIt → gJt → Bool → Prop) : Prop := ∀ (I : gIt) (J : gJt) (w : Bool) (x1 : Int32), Inv I J w → ∃ v1, p_X11_count I x1 = some v1 ∧ ∃ v2, p_X12_count I x1 = some v2 ∧ v1 = v2 ∧ Inv I J w
theorem law_next {p : Program} {e : Env} {s : State} {m : MethodId} {below : List Frame} {meth : Method} {c : Code} (l : Launch) {bs L : Nat} {xs : Nat → Int32} (hL : L ≤ 3584) (C0 : lw_At p s m meth c bs L xs) {D : va_G} {cA : Nat → ClassId} (hK : gKK D cA s) {Inv : gIt → gJt → Bool → Prop} {q : Nat} (hq : 7 * q + 7 ≤ L) {I : gIt} {J : gJt} {w : Bool} (hI : Inv I J w) (ih : ∀ I J w, Inv I J w → ∀ (H : Heap) (locs : List Loc) (ls : Array Slot), va_P D gcl (gws s.heap.size cA gS0 I J (gR0 w)) H → va_S (fun q => s.heap.size ≤ q) s.heap H locs → lv_has ls 4 [(0, .ref bs), (1, .ref (s.heap.size + 0)), (2, .ref (s.heap.size + 149)), (3, .int (nI (7 * (q + 1))))] → W p l e room_1 s m #[Value.ref bs] below meth c H locs 194 9309 (lw_Z below #[Value.ref bs] s) (F0 m 18 ls [])) : ∀ (H : Heap) (locs : List Loc) (ls : Array Slot), va_P D gcl (gws s.heap.size cA gS0 I J (gR0 w)) H → va_S (fun q => s.heap.size ≤ q) s.heap H locs → lv_has ls 4 [(0, .ref bs), (1, .ref (s.heap.size + 0)), (2, .ref (s.heap.size + 149)), (3, .int (nI (7 * q)))] → W p l e room_1 s m #[Value.ref bs] below meth c H locs 194 9309 (lw_Z below #[Value.ref bs] s) (F0 m 1282 ls []) := by
  obtain ⟨hx, hb, hr, hml, hown, hts, hX, hbl, hlocks, hgv⟩ := id C0
  intro H locs ls hP hS hl
  refine lv_iinc (v := nI (7 * (q + 1))) (lv' := [(3, .int (nI (7 * (q + 1)))), (0, .ref bs), (1, .ref (s.heap.size + 0)), (2, .ref (s.heap.size + 149))]) hx hb dL_law_1282 hl (k := 3) rfl (by rw [show 7 * (q + 1) = 7 * q + 7 by omega, ← nI_add]; rfl) (by decide) rfl (fun ls hl => ?_)
  refine lv_goto (tgt := 18) hx hb dL_law_1285 (by decide) ?_
  exact ih I J w hI H locs ls hP hS (lv_sub hl [1, 2, 3, 0] rfl)
set_option maxRecDepth 20000 in
theorem law_0 {p : Program} {e : Env} {s : State} {m : MethodId} {below : List Frame} {meth : Method} {c : Code} (l : Launch) {bs L : Nat} {xs : Nat → Int32} (hL : L ≤ 3584) (C0 : lw_At p s m meth c bs L xs) {D : va_G} {cA : Nat → ClassId} (hK : gKK D cA s) {Inv : gIt → gJt → Bool → Prop} (hE : EE_0 Inv) {q : Nat} (hq : 7 * q + 7 ≤ L) {I : gIt} {J : gJt} {w : Bool} (hI : Inv I J w) (ih : ∀ I J w, Inv I J w → ∀ (H : Heap) (locs : List Loc) (ls : Array Slot), va_P D gcl (gws s.heap.size cA gS0 I J (gR0 w)) H → va_S (fun q => s.heap.size ≤ q) s.heap H locs → lv_has ls 4 [(0, .ref bs), (1, .ref (s.heap.size + 0)), (2, .ref (s.heap.size + 149)), (3, .int (nI (7 * (q + 1))))] → W p l e room_1 s m #[Value.ref bs] below meth c H locs 194 9309 (lw_Z below #[Value.ref bs] s) (F0 m 18 ls [])) : ∀ (H : Heap) (locs : List Loc) (ls : Array Slot), va_P D gcl (gws s.heap.size cA gS0 I J (gR0 w)) H → va_S (fun q => s.heap.size ≤ q) s.heap H locs → lv_has ls 4 [(0, .ref bs), (1, .ref (s.heap.size + 0)), (2, .ref (s.heap.size + 149)), (3, .int (nI (7 * q)))] → W p l e room_1 s m #[Value.ref bs] below meth c H locs 194 9309 (lw_Z below #[Value.ref bs] s) (F0 m 160 ls []) := by
  obtain ⟨hx, hb, hr, hml, hown, hts, hX, hbl, hlocks, hgv⟩ := id C0
  have hbA : ¬ (fun q : Nat => s.heap.size ≤ q) bs := Nat.not_le.mpr hbl
  intro H locs ls hP hS hl
  obtain ⟨v1, h1, v2, h2, heq, hI2⟩ := hE I J w (xs (nI (7 * q) + 1).toNatClampNeg) hI
  refine lv_aload_n hx hb dL_law_160 rfl (lv_at hl 1 rfl) ?_
  refine lv_aload_n hx hb dL_law_161 rfl (lv_at hl 0 rfl) ?_
  refine lv_iload_n hx hb dL_law_162 rfl (lv_at hl 3 rfl) ?_
  refine lv_iconst (v := 1) hx hb dL_law_163 rfl ?_
  refine lv_iadd hx hb dL_law_164 ?_
  refine va_sld hx hb hX hbl hbA hS (lin hL hq 1 (by decide) rfl) dL_law_165 ?_
  refine L_callV (mj := gX11_now) (As := [.int (xs (nI (7 * q) + 1).toNatClampNeg)]) (rest := []) hx hb hml hown hts hK hP hS hl.1 ml_L_13 vX11_now sl_0 sk_0 (by decide) rfl rfl (fun _ => rfl) (Nat.le_of_ble_eq_true rfl) (by decide) dL_law_166 (q_X11_now h1) (fun _ => rfl) (fun H locs hP hS => ?_)
  refine lv_aload_n hx hb dL_law_169 rfl (lv_at hl 2 rfl) ?_
  refine lv_aload_n hx hb dL_law_170 rfl (lv_at hl 0 rfl) ?_
  refine lv_iload_n hx hb dL_law_171 rfl (lv_at hl 3 rfl) ?_
  refine lv_iconst (v := 1) hx hb dL_law_172 rfl ?_
  refine lv_iadd hx hb dL_law_173 ?_
  refine va_sld hx hb hX hbl hbA hS (lin hL hq 1 (by decide) rfl) dL_law_174 ?_
  refine L_callV (mj := gX12_now) (As := [.int (xs (nI (7 * q) + 1).toNatClampNeg)]) (rest := [.int v1.1]) hx hb hml hown hts hK hP hS hl.1 ml_L_17 vX12_now sl_149 sk_149 (by decide) rfl rfl (fun _ => rfl) (Nat.le_of_ble_eq_true rfl) (by decide) dL_law_175 (q_X12_now h2) (fun _ => rfl) (fun H locs hP hS => ?_)
  refine lv_icmp_eq (tgt := 1282) hx hb dL_law_178 (by decide) (fun _ => ?_) (fun hc => absurd heq hc)
  exact law_next l hL C0 hK hq hI2 ih H locs ls hP hS hl
set_option maxRecDepth 20000 in
theorem law_1 {p : Program} {e : Env} {s : State} {m : MethodId} {below : List Frame} {meth : Method} {c : Code} (l : Launch) {bs L : Nat} {xs : Nat → Int32} (hL : L ≤ 3584) (C0 : lw_At p s m meth c bs L xs) {D : va_G} {cA : Nat → ClassId} (hK : gKK D cA s) {Inv : gIt → gJt → Bool → Prop} (hE : EE_1 Inv) {q : Nat} (hq : 7 * q + 7 ≤ L) {I : gIt} {J : gJt} {w : Bool} (hI : Inv I J w) (ih : ∀ I J w, Inv I J w → ∀ (H : Heap) (locs : List Loc) (ls : Array Slot), va_P D gcl (gws s.heap.size cA gS0 I J (gR0 w)) H → va_S (fun q => s.heap.size ≤ q) s.heap H locs → lv_has ls 4 [(0, .ref bs), (1, .ref (s.heap.size + 0)), (2, .ref (s.heap.size + 149)), (3, .int (nI (7 * (q + 1))))] → W p l e room_1 s m #[Value.ref bs] below meth c H locs 194 9309 (lw_Z below #[Value.ref bs] s) (F0 m 18 ls [])) : ∀ (H : Heap) (locs : List Loc) (ls : Array Slot), va_P D gcl (gws s.heap.size cA gS0 I J (gR0 w)) H → va_S (fun q => s.heap.size ≤ q) s.heap H locs → lv_has ls 4 [(0, .ref bs), (1, .ref (s.heap.size + 0)), (2, .ref (s.heap.size + 149)), (3, .int (nI (7 * q)))] → W p l e room_1 s m #[Value.ref bs] below meth c H locs 194 9309 (lw_Z below #[Value.ref bs] s) (F0 m 183 ls []) := by
  obtain ⟨hx, hb, hr, hml, hown, hts, hX, hbl, hlocks, hgv⟩ := id C0
  have hbA : ¬ (fun q : Nat => s.heap.size ≤ q) bs := Nat.not_le.mpr hbl
  intro H locs ls hP hS hl
  obtain ⟨v1, h1, v2, h2, heq, hI2⟩ := hE I J w (xs (nI (7 * q) + 1).toNatClampNeg) (xs (nI (7 * q) + 2).toNatClampNeg) hI
  refine lv_aload_n hx hb dL_law_183 rfl (lv_at hl 1 rfl) ?_
  refine lv_aload_n hx hb dL_law_184 rfl (lv_at hl 0 rfl) ?_
  refine lv_iload_n hx hb dL_law_185 rfl (lv_at hl 3 rfl) ?_
  refine lv_iconst (v := 1) hx hb dL_law_186 rfl ?_
  refine lv_iadd hx hb dL_law_187 ?_
  refine va_sld hx hb hX hbl hbA hS (lin hL hq 1 (by decide) rfl) dL_law_188 ?_
  refine lv_aload_n hx hb dL_law_189 rfl (lv_at hl 0 rfl) ?_
  refine lv_iload_n hx hb dL_law_190 rfl (lv_at hl 3 rfl) ?_
  refine lv_iconst (v := 2) hx hb dL_law_191 rfl ?_
  refine lv_iadd hx hb dL_law_192 ?_
  refine va_sld hx hb hX hbl hbA hS (lin hL hq 2 (by decide) rfl) dL_law_193 ?_
  refine L_callV (mj := gX11_person) (As := [.int (xs (nI (7 * q) + 1).toNatClampNeg), .int (xs (nI (7 * q) + 2).toNatClampNeg)]) (rest := []) hx hb hml hown hts hK hP hS hl.1 ml_L_18 vX11_person sl_0 sk_0 (by decide) rfl rfl (fun _ => rfl) (Nat.le_of_ble_eq_true rfl) (by decide) dL_law_194 (q_X11_person h1) (fun _ => rfl) (fun H locs hP hS => ?_)
  refine lv_aload_n hx hb dL_law_197 rfl (lv_at hl 2 rfl) ?_
  refine lv_aload_n hx hb dL_law_198 rfl (lv_at hl 0 rfl) ?_
  refine lv_iload_n hx hb dL_law_199 rfl (lv_at hl 3 rfl) ?_
  refine lv_iconst (v := 1) hx hb dL_law_200 rfl ?_
  refine lv_iadd hx hb dL_law_201 ?_
  refine va_sld hx hb hX hbl hbA hS (lin hL hq 1 (by decide) rfl) dL_law_202 ?_
  refine lv_aload_n hx hb dL_law_203 rfl (lv_at hl 0 rfl) ?_
  refine lv_iload_n hx hb dL_law_204 rfl (lv_at hl 3 rfl) ?_
  refine lv_iconst (v := 2) hx hb dL_law_205 rfl ?_
  refine lv_iadd hx hb dL_law_206 ?_
  refine va_sld hx hb hX hbl hbA hS (lin hL hq 2 (by decide) rfl) dL_law_207 ?_
  refine L_callV (mj := gX12_person) (As := [.int (xs (nI (7 * q) + 1).toNatClampNeg), .int (xs (nI (7 * q) + 2).toNatClampNeg)]) (rest := [.int v1.1]) hx hb hml hown hts hK hP hS hl.1 ml_L_22 vX12_person sl_149 sk_149 (by decide) rfl rfl (fun _ => rfl) (Nat.le_of_ble_eq_true rfl) (by decide) dL_law_208 (q_X12_person h2) (fun _ => rfl) (fun H locs hP hS => ?_)
  refine lv_icmp_eq (tgt := 1282) hx hb dL_law_211 (by decide) (fun _ => ?_) (fun hc => absurd heq hc)
  exact law_next l hL C0 hK hq hI2 ih H locs ls hP hS hl
set_option maxRecDepth 20000 in
theorem law_2 {p : Program} {e : Env} {s : State} {m : MethodId} {below : List Frame} {meth : Method} {c : Code} (l : Launch) {bs L : Nat} {xs : Nat → Int32} (hL : L ≤ 3584) (C0 : lw_At p s m meth c bs L xs) {D : va_G} {cA : Nat → ClassId} (hK : gKK D cA s) {Inv : gIt → gJt → Bool → Prop} (hE : EE_2 Inv) {q : Nat} (hq : 7 * q + 7 ≤ L) {I : gIt} {J : gJt} {w : Bool} (hI : Inv I J w) (ih : ∀ I J w, Inv I J w → ∀ (H : Heap) (locs : List Loc) (ls : Array Slot), va_P D gcl (gws s.heap.size cA gS0 I J (gR0 w)) H → va_S (fun q => s.heap.size ≤ q) s.heap H locs → lv_has ls 4 [(0, .ref bs), (1, .ref (s.heap.size + 0)), (2, .ref (s.heap.size + 149)), (3, .int (nI (7 * (q + 1))))] → W p l e room_1 s m #[Value.ref bs] below meth c H locs 194 9309 (lw_Z below #[Value.ref bs] s) (F0 m 18 ls [])) : ∀ (H : Heap) (locs : List Loc) (ls : Array Slot), va_P D gcl (gws s.heap.size cA gS0 I J (gR0 w)) H → va_S (fun q => s.heap.size ≤ q) s.heap H locs → lv_has ls 4 [(0, .ref bs), (1, .ref (s.heap.size + 0)), (2, .ref (s.heap.size + 149)), (3, .int (nI (7 * q)))] → W p l e room_1 s m #[Value.ref bs] below meth c H locs 194 9309 (lw_Z below #[Value.ref bs] s) (F0 m 216 ls []) := by
  obtain ⟨hx, hb, hr, hml, hown, hts, hX, hbl, hlocks, hgv⟩ := id C0
  have hbA : ¬ (fun q : Nat => s.heap.size ≤ q) bs := Nat.not_le.mpr hbl
  intro H locs ls hP hS hl
  obtain ⟨v1, h1, v2, h2, heq, hI2⟩ := hE I J w (xs (nI (7 * q) + 1).toNatClampNeg) (xs (nI (7 * q) + 2).toNatClampNeg) hI
  refine lv_aload_n hx hb dL_law_216 rfl (lv_at hl 1 rfl) ?_
  refine lv_aload_n hx hb dL_law_217 rfl (lv_at hl 0 rfl) ?_
  refine lv_iload_n hx hb dL_law_218 rfl (lv_at hl 3 rfl) ?_
  refine lv_iconst (v := 1) hx hb dL_law_219 rfl ?_
  refine lv_iadd hx hb dL_law_220 ?_
  refine va_sld hx hb hX hbl hbA hS (lin hL hq 1 (by decide) rfl) dL_law_221 ?_
  refine lv_aload_n hx hb dL_law_222 rfl (lv_at hl 0 rfl) ?_
  refine lv_iload_n hx hb dL_law_223 rfl (lv_at hl 3 rfl) ?_
  refine lv_iconst (v := 2) hx hb dL_law_224 rfl ?_
  refine lv_iadd hx hb dL_law_225 ?_
  refine va_sld hx hb hX hbl hbA hS (lin hL hq 2 (by decide) rfl) dL_law_226 ?_
  refine L_callV (mj := gX11_dies) (As := [.int (xs (nI (7 * q) + 1).toNatClampNeg), .int (xs (nI (7 * q) + 2).toNatClampNeg)]) (rest := []) hx hb hml hown hts hK hP hS hl.1 ml_L_23 vX11_dies sl_0 sk_0 (by decide) rfl rfl (fun _ => rfl) (Nat.le_of_ble_eq_true rfl) (by decide) dL_law_227 (q_X11_dies h1) (fun _ => rfl) (fun H locs hP hS => ?_)
  refine lv_aload_n hx hb dL_law_230 rfl (lv_at hl 2 rfl) ?_
  refine lv_aload_n hx hb dL_law_231 rfl (lv_at hl 0 rfl) ?_
  refine lv_iload_n hx hb dL_law_232 rfl (lv_at hl 3 rfl) ?_
  refine lv_iconst (v := 1) hx hb dL_law_233 rfl ?_
  refine lv_iadd hx hb dL_law_234 ?_
  refine va_sld hx hb hX hbl hbA hS (lin hL hq 1 (by decide) rfl) dL_law_235 ?_
  refine lv_aload_n hx hb dL_law_236 rfl (lv_at hl 0 rfl) ?_
  refine lv_iload_n hx hb dL_law_237 rfl (lv_at hl 3 rfl) ?_
  refine lv_iconst (v := 2) hx hb dL_law_238 rfl ?_
  refine lv_iadd hx hb dL_law_239 ?_
  refine va_sld hx hb hX hbl hbA hS (lin hL hq 2 (by decide) rfl) dL_law_240 ?_
  refine L_callV (mj := gX12_dies) (As := [.int (xs (nI (7 * q) + 1).toNatClampNeg), .int (xs (nI (7 * q) + 2).toNatClampNeg)]) (rest := [.int v1.1]) hx hb hml hown hts hK hP hS hl.1 ml_L_27 vX12_dies sl_149 sk_149 (by decide) rfl rfl (fun _ => rfl) (Nat.le_of_ble_eq_true rfl) (by decide) dL_law_241 (q_X12_dies h2) (fun _ => rfl) (fun H locs hP hS => ?_)
  refine lv_icmp_eq (tgt := 1282) hx hb dL_law_244 (by decide) (fun _ => ?_) (fun hc => absurd heq hc)
  exact law_next l hL C0 hK hq hI2 ih H locs ls hP hS hl
set_option maxRecDepth 20000 in
theorem law_3 {p : Program} {e : Env} {s : State} {m : MethodId} {below : List Frame} {meth : Method} {c : Code} (l : Launch) {bs L : Nat} {xs : Nat → Int32} (hL : L ≤ 3584) (C0 : lw_At p s m meth c bs L xs) {D : va_G} {cA : Nat → ClassId} (hK : gKK D cA s) {Inv : gIt → gJt → Bool → Prop} (hE : EE_3 Inv) {q : Nat} (hq : 7 * q + 7 ≤ L) {I : gIt} {J : gJt} {w : Bool} (hI : Inv I J w) (ih : ∀ I J w, Inv I J w → ∀ (H : Heap) (locs : List Loc) (ls : Array Slot), va_P D gcl (gws s.heap.size cA gS0 I J (gR0 w)) H → va_S (fun q => s.heap.size ≤ q) s.heap H locs → lv_has ls 4 [(0, .ref bs), (1, .ref (s.heap.size + 0)), (2, .ref (s.heap.size + 149)), (3, .int (nI (7 * (q + 1))))] → W p l e room_1 s m #[Value.ref bs] below meth c H locs 194 9309 (lw_Z below #[Value.ref bs] s) (F0 m 18 ls [])) : ∀ (H : Heap) (locs : List Loc) (ls : Array Slot), va_P D gcl (gws s.heap.size cA gS0 I J (gR0 w)) H → va_S (fun q => s.heap.size ≤ q) s.heap H locs → lv_has ls 4 [(0, .ref bs), (1, .ref (s.heap.size + 0)), (2, .ref (s.heap.size + 149)), (3, .int (nI (7 * q)))] → W p l e room_1 s m #[Value.ref bs] below meth c H locs 194 9309 (lw_Z below #[Value.ref bs] s) (F0 m 249 ls []) := by
  obtain ⟨hx, hb, hr, hml, hown, hts, hX, hbl, hlocks, hgv⟩ := id C0
  have hbA : ¬ (fun q : Nat => s.heap.size ≤ q) bs := Nat.not_le.mpr hbl
  intro H locs ls hP hS hl
  obtain ⟨v1, h1, v2, h2, heq, hI2⟩ := hE I J w (xs (nI (7 * q) + 1).toNatClampNeg) (xs (nI (7 * q) + 2).toNatClampNeg) (xs (nI (7 * q) + 3).toNatClampNeg) hI
  refine lv_aload_n hx hb dL_law_249 rfl (lv_at hl 1 rfl) ?_
  refine lv_aload_n hx hb dL_law_250 rfl (lv_at hl 0 rfl) ?_
  refine lv_iload_n hx hb dL_law_251 rfl (lv_at hl 3 rfl) ?_
  refine lv_iconst (v := 1) hx hb dL_law_252 rfl ?_
  refine lv_iadd hx hb dL_law_253 ?_
  refine va_sld hx hb hX hbl hbA hS (lin hL hq 1 (by decide) rfl) dL_law_254 ?_
  refine lv_aload_n hx hb dL_law_255 rfl (lv_at hl 0 rfl) ?_
  refine lv_iload_n hx hb dL_law_256 rfl (lv_at hl 3 rfl) ?_
  refine lv_iconst (v := 2) hx hb dL_law_257 rfl ?_
  refine lv_iadd hx hb dL_law_258 ?_
  refine va_sld hx hb hX hbl hbA hS (lin hL hq 2 (by decide) rfl) dL_law_259 ?_
  refine lv_aload_n hx hb dL_law_260 rfl (lv_at hl 0 rfl) ?_
  refine lv_iload_n hx hb dL_law_261 rfl (lv_at hl 3 rfl) ?_
  refine lv_iconst (v := 3) hx hb dL_law_262 rfl ?_
  refine lv_iadd hx hb dL_law_263 ?_
  refine va_sld hx hb hX hbl hbA hS (lin hL hq 3 (by decide) rfl) dL_law_264 ?_
  refine L_callV (mj := gX11_table) (As := [.int (xs (nI (7 * q) + 1).toNatClampNeg), .int (xs (nI (7 * q) + 2).toNatClampNeg), .int (xs (nI (7 * q) + 3).toNatClampNeg)]) (rest := []) hx hb hml hown hts hK hP hS hl.1 ml_L_28 vX11_table sl_0 sk_0 (by decide) rfl rfl (fun _ => rfl) (Nat.le_of_ble_eq_true rfl) (by decide) dL_law_265 (q_X11_table h1) (fun _ => rfl) (fun H locs hP hS => ?_)
  refine lv_aload_n hx hb dL_law_268 rfl (lv_at hl 2 rfl) ?_
  refine lv_aload_n hx hb dL_law_269 rfl (lv_at hl 0 rfl) ?_
  refine lv_iload_n hx hb dL_law_270 rfl (lv_at hl 3 rfl) ?_
  refine lv_iconst (v := 1) hx hb dL_law_271 rfl ?_
  refine lv_iadd hx hb dL_law_272 ?_
  refine va_sld hx hb hX hbl hbA hS (lin hL hq 1 (by decide) rfl) dL_law_273 ?_
  refine lv_aload_n hx hb dL_law_274 rfl (lv_at hl 0 rfl) ?_
  refine lv_iload_n hx hb dL_law_275 rfl (lv_at hl 3 rfl) ?_
  refine lv_iconst (v := 2) hx hb dL_law_276 rfl ?_
  refine lv_iadd hx hb dL_law_277 ?_
  refine va_sld hx hb hX hbl hbA hS (lin hL hq 2 (by decide) rfl) dL_law_278 ?_
  refine lv_aload_n hx hb dL_law_279 rfl (lv_at hl 0 rfl) ?_
  refine lv_iload_n hx hb dL_law_280 rfl (lv_at hl 3 rfl) ?_
  refine lv_iconst (v := 3) hx hb dL_law_281 rfl ?_
  refine lv_iadd hx hb dL_law_282 ?_
  refine va_sld hx hb hX hbl hbA hS (lin hL hq 3 (by decide) rfl) dL_law_283 ?_
  refine L_callV (mj := gX12_table) (As := [.int (xs (nI (7 * q) + 1).toNatClampNeg), .int (xs (nI (7 * q) + 2).toNatClampNeg), .int (xs (nI (7 * q) + 3).toNatClampNeg)]) (rest := [.int v1.1]) hx hb hml hown hts hK hP hS hl.1 ml_L_32 vX12_table sl_149 sk_149 (by decide) rfl rfl (fun _ => rfl) (Nat.le_of_ble_eq_true rfl) (by decide) dL_law_284 (q_X12_table h2) (fun _ => rfl) (fun H locs hP hS => ?_)
  refine lv_icmp_eq (tgt := 1282) hx hb dL_law_287 (by decide) (fun _ => ?_) (fun hc => absurd heq hc)
  exact law_next l hL C0 hK hq hI2 ih H locs ls hP hS hl
set_option maxRecDepth 20000 in
theorem law_4 {p : Program} {e : Env} {s : State} {m : MethodId} {below : List Frame} {meth : Method} {c : Code} (l : Launch) {bs L : Nat} {xs : Nat → Int32} (hL : L ≤ 3584) (C0 : lw_At p s m meth c bs L xs) {D : va_G} {cA : Nat → ClassId} (hK : gKK D cA s) {Inv : gIt → gJt → Bool → Prop} (hE : EE_4 Inv) {q : Nat} (hq : 7 * q + 7 ≤ L) {I : gIt} {J : gJt} {w : Bool} (hI : Inv I J w) (ih : ∀ I J w, Inv I J w → ∀ (H : Heap) (locs : List Loc) (ls : Array Slot), va_P D gcl (gws s.heap.size cA gS0 I J (gR0 w)) H → va_S (fun q => s.heap.size ≤ q) s.heap H locs → lv_has ls 4 [(0, .ref bs), (1, .ref (s.heap.size + 0)), (2, .ref (s.heap.size + 149)), (3, .int (nI (7 * (q + 1))))] → W p l e room_1 s m #[Value.ref bs] below meth c H locs 194 9309 (lw_Z below #[Value.ref bs] s) (F0 m 18 ls [])) : ∀ (H : Heap) (locs : List Loc) (ls : Array Slot), va_P D gcl (gws s.heap.size cA gS0 I J (gR0 w)) H → va_S (fun q => s.heap.size ≤ q) s.heap H locs → lv_has ls 4 [(0, .ref bs), (1, .ref (s.heap.size + 0)), (2, .ref (s.heap.size + 149)), (3, .int (nI (7 * q)))] → W p l e room_1 s m #[Value.ref bs] below meth c H locs 194 9309 (lw_Z below #[Value.ref bs] s) (F0 m 292 ls []) := by
  obtain ⟨hx, hb, hr, hml, hown, hts, hX, hbl, hlocks, hgv⟩ := id C0
  have hbA : ¬ (fun q : Nat => s.heap.size ≤ q) bs := Nat.not_le.mpr hbl
  intro H locs ls hP hS hl
  obtain ⟨v1, h1, v2, h2, heq, hI2⟩ := hE I J w (xs (nI (7 * q) + 1).toNatClampNeg) (xs (nI (7 * q) + 2).toNatClampNeg) hI
  refine lv_aload_n hx hb dL_law_292 rfl (lv_at hl 1 rfl) ?_
  refine lv_aload_n hx hb dL_law_293 rfl (lv_at hl 0 rfl) ?_
  refine lv_iload_n hx hb dL_law_294 rfl (lv_at hl 3 rfl) ?_
  refine lv_iconst (v := 1) hx hb dL_law_295 rfl ?_
  refine lv_iadd hx hb dL_law_296 ?_
  refine va_sld hx hb hX hbl hbA hS (lin hL hq 1 (by decide) rfl) dL_law_297 ?_
  refine lv_aload_n hx hb dL_law_298 rfl (lv_at hl 0 rfl) ?_
  refine lv_iload_n hx hb dL_law_299 rfl (lv_at hl 3 rfl) ?_
  refine lv_iconst (v := 2) hx hb dL_law_300 rfl ?_
  refine lv_iadd hx hb dL_law_301 ?_
  refine va_sld hx hb hX hbl hbA hS (lin hL hq 2 (by decide) rfl) dL_law_302 ?_
  refine L_callV (mj := gX11_lives) (As := [.int (xs (nI (7 * q) + 1).toNatClampNeg), .int (xs (nI (7 * q) + 2).toNatClampNeg)]) (rest := []) hx hb hml hown hts hK hP hS hl.1 ml_L_33 vX11_lives sl_0 sk_0 (by decide) rfl rfl (fun _ => rfl) (Nat.le_of_ble_eq_true rfl) (by decide) dL_law_303 (q_X11_lives h1) (fun _ => rfl) (fun H locs hP hS => ?_)
  refine lv_aload_n hx hb dL_law_306 rfl (lv_at hl 2 rfl) ?_
  refine lv_aload_n hx hb dL_law_307 rfl (lv_at hl 0 rfl) ?_
  refine lv_iload_n hx hb dL_law_308 rfl (lv_at hl 3 rfl) ?_
  refine lv_iconst (v := 1) hx hb dL_law_309 rfl ?_
  refine lv_iadd hx hb dL_law_310 ?_
  refine va_sld hx hb hX hbl hbA hS (lin hL hq 1 (by decide) rfl) dL_law_311 ?_
  refine lv_aload_n hx hb dL_law_312 rfl (lv_at hl 0 rfl) ?_
  refine lv_iload_n hx hb dL_law_313 rfl (lv_at hl 3 rfl) ?_
  refine lv_iconst (v := 2) hx hb dL_law_314 rfl ?_
  refine lv_iadd hx hb dL_law_315 ?_
  refine va_sld hx hb hX hbl hbA hS (lin hL hq 2 (by decide) rfl) dL_law_316 ?_
  refine L_callV (mj := gX12_lives) (As := [.int (xs (nI (7 * q) + 1).toNatClampNeg), .int (xs (nI (7 * q) + 2).toNatClampNeg)]) (rest := [.int v1]) hx hb hml hown hts hK hP hS hl.1 ml_L_36 vX12_lives sl_149 sk_149 (by decide) rfl rfl (fun _ => rfl) (Nat.le_of_ble_eq_true rfl) (by decide) dL_law_317 (q_X12_lives h2) (fun _ => rfl) (fun H locs hP hS => ?_)
  refine lv_icmp_eq (tgt := 1282) hx hb dL_law_320 (by decide) (fun _ => ?_) (fun hc => absurd heq hc)
  exact law_next l hL C0 hK hq hI2 ih H locs ls hP hS hl
set_option maxRecDepth 20000 in
theorem law_5 {p : Program} {e : Env} {s : State} {m : MethodId} {below : List Frame} {meth : Method} {c : Code} (l : Launch) {bs L : Nat} {xs : Nat → Int32} (hL : L ≤ 3584) (C0 : lw_At p s m meth c bs L xs) {D : va_G} {cA : Nat → ClassId} (hK : gKK D cA s) {Inv : gIt → gJt → Bool → Prop} (hE : EE_5 Inv) {q : Nat} (hq : 7 * q + 7 ≤ L) {I : gIt} {J : gJt} {w : Bool} (hI : Inv I J w) (ih : ∀ I J w, Inv I J w → ∀ (H : Heap) (locs : List Loc) (ls : Array Slot), va_P D gcl (gws s.heap.size cA gS0 I J (gR0 w)) H → va_S (fun q => s.heap.size ≤ q) s.heap H locs → lv_has ls 4 [(0, .ref bs), (1, .ref (s.heap.size + 0)), (2, .ref (s.heap.size + 149)), (3, .int (nI (7 * (q + 1))))] → W p l e room_1 s m #[Value.ref bs] below meth c H locs 194 9309 (lw_Z below #[Value.ref bs] s) (F0 m 18 ls [])) : ∀ (H : Heap) (locs : List Loc) (ls : Array Slot), va_P D gcl (gws s.heap.size cA gS0 I J (gR0 w)) H → va_S (fun q => s.heap.size ≤ q) s.heap H locs → lv_has ls 4 [(0, .ref bs), (1, .ref (s.heap.size + 0)), (2, .ref (s.heap.size + 149)), (3, .int (nI (7 * q)))] → W p l e room_1 s m #[Value.ref bs] below meth c H locs 194 9309 (lw_Z below #[Value.ref bs] s) (F0 m 325 ls []) := by
  obtain ⟨hx, hb, hr, hml, hown, hts, hX, hbl, hlocks, hgv⟩ := id C0
  have hbA : ¬ (fun q : Nat => s.heap.size ≤ q) bs := Nat.not_le.mpr hbl
  intro H locs ls hP hS hl
  obtain ⟨v1, h1, v2, h2, heq, hI2⟩ := hE I J w (xs (nI (7 * q) + 1).toNatClampNeg) (xs (nI (7 * q) + 2).toNatClampNeg) hI
  refine lv_aload_n hx hb dL_law_325 rfl (lv_at hl 1 rfl) ?_
  refine lv_aload_n hx hb dL_law_326 rfl (lv_at hl 0 rfl) ?_
  refine lv_iload_n hx hb dL_law_327 rfl (lv_at hl 3 rfl) ?_
  refine lv_iconst (v := 1) hx hb dL_law_328 rfl ?_
  refine lv_iadd hx hb dL_law_329 ?_
  refine va_sld hx hb hX hbl hbA hS (lin hL hq 1 (by decide) rfl) dL_law_330 ?_
  refine lv_aload_n hx hb dL_law_331 rfl (lv_at hl 0 rfl) ?_
  refine lv_iload_n hx hb dL_law_332 rfl (lv_at hl 3 rfl) ?_
  refine lv_iconst (v := 2) hx hb dL_law_333 rfl ?_
  refine lv_iadd hx hb dL_law_334 ?_
  refine va_sld hx hb hX hbl hbA hS (lin hL hq 2 (by decide) rfl) dL_law_335 ?_
  refine L_callV (mj := gX11_number) (As := [.int (xs (nI (7 * q) + 1).toNatClampNeg), .int (xs (nI (7 * q) + 2).toNatClampNeg)]) (rest := []) hx hb hml hown hts hK hP hS hl.1 ml_L_37 vX11_number sl_0 sk_0 (by decide) rfl rfl (fun _ => rfl) (Nat.le_of_ble_eq_true rfl) (by decide) dL_law_336 (q_X11_number h1) (fun _ => rfl) (fun H locs hP hS => ?_)
  refine lv_aload_n hx hb dL_law_339 rfl (lv_at hl 2 rfl) ?_
  refine lv_aload_n hx hb dL_law_340 rfl (lv_at hl 0 rfl) ?_
  refine lv_iload_n hx hb dL_law_341 rfl (lv_at hl 3 rfl) ?_
  refine lv_iconst (v := 1) hx hb dL_law_342 rfl ?_
  refine lv_iadd hx hb dL_law_343 ?_
  refine va_sld hx hb hX hbl hbA hS (lin hL hq 1 (by decide) rfl) dL_law_344 ?_
  refine lv_aload_n hx hb dL_law_345 rfl (lv_at hl 0 rfl) ?_
  refine lv_iload_n hx hb dL_law_346 rfl (lv_at hl 3 rfl) ?_
  refine lv_iconst (v := 2) hx hb dL_law_347 rfl ?_
  refine lv_iadd hx hb dL_law_348 ?_
  refine va_sld hx hb hX hbl hbA hS (lin hL hq 2 (by decide) rfl) dL_law_349 ?_
  refine L_callV (mj := gX12_number) (As := [.int (xs (nI (7 * q) + 1).toNatClampNeg), .int (xs (nI (7 * q) + 2).toNatClampNeg)]) (rest := [.int v1.1]) hx hb hml hown hts hK hP hS hl.1 ml_L_40 vX12_number sl_149 sk_149 (by decide) rfl rfl (fun _ => rfl) (Nat.le_of_ble_eq_true rfl) (by decide) dL_law_350 (q_X12_number h2) (fun _ => rfl) (fun H locs hP hS => ?_)
  refine lv_icmp_eq (tgt := 1282) hx hb dL_law_353 (by decide) (fun _ => ?_) (fun hc => absurd heq hc)
  exact law_next l hL C0 hK hq hI2 ih H locs ls hP hS hl
set_option maxRecDepth 20000 in
theorem law_6 {p : Program} {e : Env} {s : State} {m : MethodId} {below : List Frame} {meth : Method} {c : Code} (l : Launch) {bs L : Nat} {xs : Nat → Int32} (hL : L ≤ 3584) (C0 : lw_At p s m meth c bs L xs) {D : va_G} {cA : Nat → ClassId} (hK : gKK D cA s) {Inv : gIt → gJt → Bool → Prop} (hE : EE_6 Inv) {q : Nat} (hq : 7 * q + 7 ≤ L) {I : gIt} {J : gJt} {w : Bool} (hI : Inv I J w) (ih : ∀ I J w, Inv I J w → ∀ (H : Heap) (locs : List Loc) (ls : Array Slot), va_P D gcl (gws s.heap.size cA gS0 I J (gR0 w)) H → va_S (fun q => s.heap.size ≤ q) s.heap H locs → lv_has ls 4 [(0, .ref bs), (1, .ref (s.heap.size + 0)), (2, .ref (s.heap.size + 149)), (3, .int (nI (7 * (q + 1))))] → W p l e room_1 s m #[Value.ref bs] below meth c H locs 194 9309 (lw_Z below #[Value.ref bs] s) (F0 m 18 ls [])) : ∀ (H : Heap) (locs : List Loc) (ls : Array Slot), va_P D gcl (gws s.heap.size cA gS0 I J (gR0 w)) H → va_S (fun q => s.heap.size ≤ q) s.heap H locs → lv_has ls 4 [(0, .ref bs), (1, .ref (s.heap.size + 0)), (2, .ref (s.heap.size + 149)), (3, .int (nI (7 * q)))] → W p l e room_1 s m #[Value.ref bs] below meth c H locs 194 9309 (lw_Z below #[Value.ref bs] s) (F0 m 358 ls []) := by
  obtain ⟨hx, hb, hr, hml, hown, hts, hX, hbl, hlocks, hgv⟩ := id C0
  have hbA : ¬ (fun q : Nat => s.heap.size ≤ q) bs := Nat.not_le.mpr hbl
  intro H locs ls hP hS hl
  obtain ⟨v1, h1, v2, h2, heq, hI2⟩ := hE I J w (xs (nI (7 * q) + 1).toNatClampNeg) hI
  refine lv_aload_n hx hb dL_law_358 rfl (lv_at hl 1 rfl) ?_
  refine lv_aload_n hx hb dL_law_359 rfl (lv_at hl 0 rfl) ?_
  refine lv_iload_n hx hb dL_law_360 rfl (lv_at hl 3 rfl) ?_
  refine lv_iconst (v := 1) hx hb dL_law_361 rfl ?_
  refine lv_iadd hx hb dL_law_362 ?_
  refine va_sld hx hb hX hbl hbA hS (lin hL hq 1 (by decide) rfl) dL_law_363 ?_
  refine L_callV (mj := gX11_discount) (As := [.int (xs (nI (7 * q) + 1).toNatClampNeg)]) (rest := []) hx hb hml hown hts hK hP hS hl.1 ml_L_41 vX11_discount sl_0 sk_0 (by decide) rfl rfl (fun _ => rfl) (Nat.le_of_ble_eq_true rfl) (by decide) dL_law_364 (q_X11_discount h1) (fun _ => rfl) (fun H locs hP hS => ?_)
  refine lv_aload_n hx hb dL_law_367 rfl (lv_at hl 2 rfl) ?_
  refine lv_aload_n hx hb dL_law_368 rfl (lv_at hl 0 rfl) ?_
  refine lv_iload_n hx hb dL_law_369 rfl (lv_at hl 3 rfl) ?_
  refine lv_iconst (v := 1) hx hb dL_law_370 rfl ?_
  refine lv_iadd hx hb dL_law_371 ?_
  refine va_sld hx hb hX hbl hbA hS (lin hL hq 1 (by decide) rfl) dL_law_372 ?_
  refine L_callV (mj := gX12_discount) (As := [.int (xs (nI (7 * q) + 1).toNatClampNeg)]) (rest := [.int v1]) hx hb hml hown hts hK hP hS hl.1 ml_L_45 vX12_discount sl_149 sk_149 (by decide) rfl rfl (fun _ => rfl) (Nat.le_of_ble_eq_true rfl) (by decide) dL_law_373 (q_X12_discount h2) (fun _ => rfl) (fun H locs hP hS => ?_)
  refine lv_icmp_eq (tgt := 1282) hx hb dL_law_376 (by decide) (fun _ => ?_) (fun hc => absurd heq hc)
  exact law_next l hL C0 hK hq hI2 ih H locs ls hP hS hl
set_option maxRecDepth 20000 in
theorem law_7 {p : Program} {e : Env} {s : State} {m : MethodId} {below : List Frame} {meth : Method} {c : Code} (l : Launch) {bs L : Nat} {xs : Nat → Int32} (hL : L ≤ 3584) (C0 : lw_At p s m meth c bs L xs) {D : va_G} {cA : Nat → ClassId} (hK : gKK D cA s) {Inv : gIt → gJt → Bool → Prop} (hE : EE_7 Inv) {q : Nat} (hq : 7 * q + 7 ≤ L) {I : gIt} {J : gJt} {w : Bool} (hI : Inv I J w) (ih : ∀ I J w, Inv I J w → ∀ (H : Heap) (locs : List Loc) (ls : Array Slot), va_P D gcl (gws s.heap.size cA gS0 I J (gR0 w)) H → va_S (fun q => s.heap.size ≤ q) s.heap H locs → lv_has ls 4 [(0, .ref bs), (1, .ref (s.heap.size + 0)), (2, .ref (s.heap.size + 149)), (3, .int (nI (7 * (q + 1))))] → W p l e room_1 s m #[Value.ref bs] below meth c H locs 194 9309 (lw_Z below #[Value.ref bs] s) (F0 m 18 ls [])) : ∀ (H : Heap) (locs : List Loc) (ls : Array Slot), va_P D gcl (gws s.heap.size cA gS0 I J (gR0 w)) H → va_S (fun q => s.heap.size ≤ q) s.heap H locs → lv_has ls 4 [(0, .ref bs), (1, .ref (s.heap.size + 0)), (2, .ref (s.heap.size + 149)), (3, .int (nI (7 * q)))] → W p l e room_1 s m #[Value.ref bs] below meth c H locs 194 9309 (lw_Z below #[Value.ref bs] s) (F0 m 381 ls []) := by
  obtain ⟨hx, hb, hr, hml, hown, hts, hX, hbl, hlocks, hgv⟩ := id C0
  have hbA : ¬ (fun q : Nat => s.heap.size ≤ q) bs := Nat.not_le.mpr hbl
  intro H locs ls hP hS hl
  obtain ⟨v1, h1, v2, h2, heq, hI2⟩ := hE I J w (xs (nI (7 * q) + 1).toNatClampNeg) (xs (nI (7 * q) + 2).toNatClampNeg) (xs (nI (7 * q) + 3).toNatClampNeg) (xs (nI (7 * q) + 4).toNatClampNeg) (xs (nI (7 * q) + 5).toNatClampNeg) hI
  refine lv_aload_n hx hb dL_law_381 rfl (lv_at hl 1 rfl) ?_
  refine lv_aload_n hx hb dL_law_382 rfl (lv_at hl 0 rfl) ?_
  refine lv_iload_n hx hb dL_law_383 rfl (lv_at hl 3 rfl) ?_
  refine lv_iconst (v := 1) hx hb dL_law_384 rfl ?_
  refine lv_iadd hx hb dL_law_385 ?_
  refine va_sld hx hb hX hbl hbA hS (lin hL hq 1 (by decide) rfl) dL_law_386 ?_
  refine lv_aload_n hx hb dL_law_387 rfl (lv_at hl 0 rfl) ?_
  refine lv_iload_n hx hb dL_law_388 rfl (lv_at hl 3 rfl) ?_
  refine lv_iconst (v := 2) hx hb dL_law_389 rfl ?_
  refine lv_iadd hx hb dL_law_390 ?_
  refine va_sld hx hb hX hbl hbA hS (lin hL hq 2 (by decide) rfl) dL_law_391 ?_
  refine lv_aload_n hx hb dL_law_392 rfl (lv_at hl 0 rfl) ?_
  refine lv_iload_n hx hb dL_law_393 rfl (lv_at hl 3 rfl) ?_
  refine lv_iconst (v := 3) hx hb dL_law_394 rfl ?_
  refine lv_iadd hx hb dL_law_395 ?_
  refine va_sld hx hb hX hbl hbA hS (lin hL hq 3 (by decide) rfl) dL_law_396 ?_
  refine lv_aload_n hx hb dL_law_397 rfl (lv_at hl 0 rfl) ?_
  refine lv_iload_n hx hb dL_law_398 rfl (lv_at hl 3 rfl) ?_
  refine lv_iconst (v := 4) hx hb dL_law_399 rfl ?_
  refine lv_iadd hx hb dL_law_400 ?_
  refine va_sld hx hb hX hbl hbA hS (lin hL hq 4 (by decide) rfl) dL_law_401 ?_
  refine lv_aload_n hx hb dL_law_402 rfl (lv_at hl 0 rfl) ?_
  refine lv_iload_n hx hb dL_law_403 rfl (lv_at hl 3 rfl) ?_
  refine lv_iconst (v := 5) hx hb dL_law_404 rfl ?_
  refine lv_iadd hx hb dL_law_405 ?_
  refine va_sld hx hb hX hbl hbA hS (lin hL hq 5 (by decide) rfl) dL_law_406 ?_
  refine L_callV (mj := gX11_feed) (As := [.int (xs (nI (7 * q) + 1).toNatClampNeg), .int (xs (nI (7 * q) + 2).toNatClampNeg), .int (xs (nI (7 * q) + 3).toNatClampNeg), .int (xs (nI (7 * q) + 4).toNatClampNeg), .int (xs (nI (7 * q) + 5).toNatClampNeg)]) (rest := []) hx hb hml hown hts hK hP hS hl.1 ml_L_46 vX11_feed sl_0 sk_0 (by decide) rfl rfl (fun _ => rfl) (Nat.le_of_ble_eq_true rfl) (by decide) dL_law_407 (q_X11_feed h1) (fun _ => rfl) (fun H locs hP hS => ?_)
  refine lv_aload_n hx hb dL_law_410 rfl (lv_at hl 2 rfl) ?_
  refine lv_aload_n hx hb dL_law_411 rfl (lv_at hl 0 rfl) ?_
  refine lv_iload_n hx hb dL_law_412 rfl (lv_at hl 3 rfl) ?_
  refine lv_iconst (v := 1) hx hb dL_law_413 rfl ?_
  refine lv_iadd hx hb dL_law_414 ?_
  refine va_sld hx hb hX hbl hbA hS (lin hL hq 1 (by decide) rfl) dL_law_415 ?_
  refine lv_aload_n hx hb dL_law_416 rfl (lv_at hl 0 rfl) ?_
  refine lv_iload_n hx hb dL_law_417 rfl (lv_at hl 3 rfl) ?_
  refine lv_iconst (v := 2) hx hb dL_law_418 rfl ?_
  refine lv_iadd hx hb dL_law_419 ?_
  refine va_sld hx hb hX hbl hbA hS (lin hL hq 2 (by decide) rfl) dL_law_420 ?_
  refine lv_aload_n hx hb dL_law_421 rfl (lv_at hl 0 rfl) ?_
  refine lv_iload_n hx hb dL_law_422 rfl (lv_at hl 3 rfl) ?_
  refine lv_iconst (v := 3) hx hb dL_law_423 rfl ?_
  refine lv_iadd hx hb dL_law_424 ?_
  refine va_sld hx hb hX hbl hbA hS (lin hL hq 3 (by decide) rfl) dL_law_425 ?_
  refine lv_aload_n hx hb dL_law_426 rfl (lv_at hl 0 rfl) ?_
  refine lv_iload_n hx hb dL_law_427 rfl (lv_at hl 3 rfl) ?_
  refine lv_iconst (v := 4) hx hb dL_law_428 rfl ?_
  refine lv_iadd hx hb dL_law_429 ?_
  refine va_sld hx hb hX hbl hbA hS (lin hL hq 4 (by decide) rfl) dL_law_430 ?_
  refine lv_aload_n hx hb dL_law_431 rfl (lv_at hl 0 rfl) ?_
  refine lv_iload_n hx hb dL_law_432 rfl (lv_at hl 3 rfl) ?_
  refine lv_iconst (v := 5) hx hb dL_law_433 rfl ?_
  refine lv_iadd hx hb dL_law_434 ?_
  refine va_sld hx hb hX hbl hbA hS (lin hL hq 5 (by decide) rfl) dL_law_435 ?_
  refine L_callV (mj := gX12_feed) (As := [.int (xs (nI (7 * q) + 1).toNatClampNeg), .int (xs (nI (7 * q) + 2).toNatClampNeg), .int (xs (nI (7 * q) + 3).toNatClampNeg), .int (xs (nI (7 * q) + 4).toNatClampNeg), .int (xs (nI (7 * q) + 5).toNatClampNeg)]) (rest := [.int v1.1]) hx hb hml hown hts hK hP hS hl.1 ml_L_50 vX12_feed sl_149 sk_149 (by decide) rfl rfl (fun _ => rfl) (Nat.le_of_ble_eq_true rfl) (by decide) dL_law_436 (q_X12_feed h2) (fun _ => rfl) (fun H locs hP hS => ?_)
  refine lv_icmp_eq (tgt := 1282) hx hb dL_law_439 (by decide) (fun _ => ?_) (fun hc => absurd heq hc)
  exact law_next l hL C0 hK hq hI2 ih H locs ls hP hS hl
set_option maxRecDepth 20000 in
theorem law_8 {p : Program} {e : Env} {s : State} {m : MethodId} {below : List Frame} {meth : Method} {c : Code} (l : Launch) {bs L : Nat} {xs : Nat → Int32} (hL : L ≤ 3584) (C0 : lw_At p s m meth c bs L xs) {D : va_G} {cA : Nat → ClassId} (hK : gKK D cA s) {Inv : gIt → gJt → Bool → Prop} (hE : EE_8 Inv) {q : Nat} (hq : 7 * q + 7 ≤ L) {I : gIt} {J : gJt} {w : Bool} (hI : Inv I J w) (ih : ∀ I J w, Inv I J w → ∀ (H : Heap) (locs : List Loc) (ls : Array Slot), va_P D gcl (gws s.heap.size cA gS0 I J (gR0 w)) H → va_S (fun q => s.heap.size ≤ q) s.heap H locs → lv_has ls 4 [(0, .ref bs), (1, .ref (s.heap.size + 0)), (2, .ref (s.heap.size + 149)), (3, .int (nI (7 * (q + 1))))] → W p l e room_1 s m #[Value.ref bs] below meth c H locs 194 9309 (lw_Z below #[Value.ref bs] s) (F0 m 18 ls [])) : ∀ (H : Heap) (locs : List Loc) (ls : Array Slot), va_P D gcl (gws s.heap.size cA gS0 I J (gR0 w)) H → va_S (fun q => s.heap.size ≤ q) s.heap H locs → lv_has ls 4 [(0, .ref bs), (1, .ref (s.heap.size + 0)), (2, .ref (s.heap.size + 149)), (3, .int (nI (7 * q)))] → W p l e room_1 s m #[Value.ref bs] below meth c H locs 194 9309 (lw_Z below #[Value.ref bs] s) (F0 m 444 ls []) := by
  obtain ⟨hx, hb, hr, hml, hown, hts, hX, hbl, hlocks, hgv⟩ := id C0
  have hbA : ¬ (fun q : Nat => s.heap.size ≤ q) bs := Nat.not_le.mpr hbl
  intro H locs ls hP hS hl
  obtain ⟨v1, h1, v2, h2, heq, hI2⟩ := hE I J w (xs (nI (7 * q) + 1).toNatClampNeg) (xs (nI (7 * q) + 2).toNatClampNeg) (xs (nI (7 * q) + 3).toNatClampNeg) (xs (nI (7 * q) + 4).toNatClampNeg) hI
  refine lv_aload_n hx hb dL_law_444 rfl (lv_at hl 1 rfl) ?_
  refine lv_aload_n hx hb dL_law_445 rfl (lv_at hl 0 rfl) ?_
  refine lv_iload_n hx hb dL_law_446 rfl (lv_at hl 3 rfl) ?_
  refine lv_iconst (v := 1) hx hb dL_law_447 rfl ?_
  refine lv_iadd hx hb dL_law_448 ?_
  refine va_sld hx hb hX hbl hbA hS (lin hL hq 1 (by decide) rfl) dL_law_449 ?_
  refine lv_aload_n hx hb dL_law_450 rfl (lv_at hl 0 rfl) ?_
  refine lv_iload_n hx hb dL_law_451 rfl (lv_at hl 3 rfl) ?_
  refine lv_iconst (v := 2) hx hb dL_law_452 rfl ?_
  refine lv_iadd hx hb dL_law_453 ?_
  refine va_sld hx hb hX hbl hbA hS (lin hL hq 2 (by decide) rfl) dL_law_454 ?_
  refine lv_aload_n hx hb dL_law_455 rfl (lv_at hl 0 rfl) ?_
  refine lv_iload_n hx hb dL_law_456 rfl (lv_at hl 3 rfl) ?_
  refine lv_iconst (v := 3) hx hb dL_law_457 rfl ?_
  refine lv_iadd hx hb dL_law_458 ?_
  refine va_sld hx hb hX hbl hbA hS (lin hL hq 3 (by decide) rfl) dL_law_459 ?_
  refine lv_aload_n hx hb dL_law_460 rfl (lv_at hl 0 rfl) ?_
  refine lv_iload_n hx hb dL_law_461 rfl (lv_at hl 3 rfl) ?_
  refine lv_iconst (v := 4) hx hb dL_law_462 rfl ?_
  refine lv_iadd hx hb dL_law_463 ?_
  refine va_sld hx hb hX hbl hbA hS (lin hL hq 4 (by decide) rfl) dL_law_464 ?_
  refine L_callV (mj := gX11_settle) (As := [.int (xs (nI (7 * q) + 1).toNatClampNeg), .int (xs (nI (7 * q) + 2).toNatClampNeg), .int (xs (nI (7 * q) + 3).toNatClampNeg), .int (xs (nI (7 * q) + 4).toNatClampNeg)]) (rest := []) hx hb hml hown hts hK hP hS hl.1 ml_L_51 vX11_settle sl_0 sk_0 (by decide) rfl rfl (fun _ => rfl) (Nat.le_of_ble_eq_true rfl) (by decide) dL_law_465 (q_X11_settle h1) (fun _ => rfl) (fun H locs hP hS => ?_)
  refine lv_aload_n hx hb dL_law_468 rfl (lv_at hl 2 rfl) ?_
  refine lv_aload_n hx hb dL_law_469 rfl (lv_at hl 0 rfl) ?_
  refine lv_iload_n hx hb dL_law_470 rfl (lv_at hl 3 rfl) ?_
  refine lv_iconst (v := 1) hx hb dL_law_471 rfl ?_
  refine lv_iadd hx hb dL_law_472 ?_
  refine va_sld hx hb hX hbl hbA hS (lin hL hq 1 (by decide) rfl) dL_law_473 ?_
  refine lv_aload_n hx hb dL_law_474 rfl (lv_at hl 0 rfl) ?_
  refine lv_iload_n hx hb dL_law_475 rfl (lv_at hl 3 rfl) ?_
  refine lv_iconst (v := 2) hx hb dL_law_476 rfl ?_
  refine lv_iadd hx hb dL_law_477 ?_
  refine va_sld hx hb hX hbl hbA hS (lin hL hq 2 (by decide) rfl) dL_law_478 ?_
  refine lv_aload_n hx hb dL_law_479 rfl (lv_at hl 0 rfl) ?_
  refine lv_iload_n hx hb dL_law_480 rfl (lv_at hl 3 rfl) ?_
  refine lv_iconst (v := 3) hx hb dL_law_481 rfl ?_
  refine lv_iadd hx hb dL_law_482 ?_
  refine va_sld hx hb hX hbl hbA hS (lin hL hq 3 (by decide) rfl) dL_law_483 ?_
  refine lv_aload_n hx hb dL_law_484 rfl (lv_at hl 0 rfl) ?_
  refine lv_iload_n hx hb dL_law_485 rfl (lv_at hl 3 rfl) ?_
  refine lv_iconst (v := 4) hx hb dL_law_486 rfl ?_
  refine lv_iadd hx hb dL_law_487 ?_
  refine va_sld hx hb hX hbl hbA hS (lin hL hq 4 (by decide) rfl) dL_law_488 ?_
  refine L_callV (mj := gX12_settle) (As := [.int (xs (nI (7 * q) + 1).toNatClampNeg), .int (xs (nI (7 * q) + 2).toNatClampNeg), .int (xs (nI (7 * q) + 3).toNatClampNeg), .int (xs (nI (7 * q) + 4).toNatClampNeg)]) (rest := [.int v1.1]) hx hb hml hown hts hK hP hS hl.1 ml_L_55 vX12_settle sl_149 sk_149 (by decide) rfl rfl (fun _ => rfl) (Nat.le_of_ble_eq_true rfl) (by decide) dL_law_489 (q_X12_settle h2) (fun _ => rfl) (fun H locs hP hS => ?_)
  refine lv_icmp_eq (tgt := 1282) hx hb dL_law_492 (by decide) (fun _ => ?_) (fun hc => absurd heq hc)
  exact law_next l hL C0 hK hq hI2 ih H locs ls hP hS hl
set_option maxRecDepth 20000 in
theorem law_9 {p : Program} {e : Env} {s : State} {m : MethodId} {below : List Frame} {meth : Method} {c : Code} (l : Launch) {bs L : Nat} {xs : Nat → Int32} (hL : L ≤ 3584) (C0 : lw_At p s m meth c bs L xs) {D : va_G} {cA : Nat → ClassId} (hK : gKK D cA s) {Inv : gIt → gJt → Bool → Prop} (hE : EE_9 Inv) {q : Nat} (hq : 7 * q + 7 ≤ L) {I : gIt} {J : gJt} {w : Bool} (hI : Inv I J w) (ih : ∀ I J w, Inv I J w → ∀ (H : Heap) (locs : List Loc) (ls : Array Slot), va_P D gcl (gws s.heap.size cA gS0 I J (gR0 w)) H → va_S (fun q => s.heap.size ≤ q) s.heap H locs → lv_has ls 4 [(0, .ref bs), (1, .ref (s.heap.size + 0)), (2, .ref (s.heap.size + 149)), (3, .int (nI (7 * (q + 1))))] → W p l e room_1 s m #[Value.ref bs] below meth c H locs 194 9309 (lw_Z below #[Value.ref bs] s) (F0 m 18 ls [])) : ∀ (H : Heap) (locs : List Loc) (ls : Array Slot), va_P D gcl (gws s.heap.size cA gS0 I J (gR0 w)) H → va_S (fun q => s.heap.size ≤ q) s.heap H locs → lv_has ls 4 [(0, .ref bs), (1, .ref (s.heap.size + 0)), (2, .ref (s.heap.size + 149)), (3, .int (nI (7 * q)))] → W p l e room_1 s m #[Value.ref bs] below meth c H locs 194 9309 (lw_Z below #[Value.ref bs] s) (F0 m 497 ls []) := by
  obtain ⟨hx, hb, hr, hml, hown, hts, hX, hbl, hlocks, hgv⟩ := id C0
  have hbA : ¬ (fun q : Nat => s.heap.size ≤ q) bs := Nat.not_le.mpr hbl
  intro H locs ls hP hS hl
  obtain ⟨v1, h1, v2, h2, heq, hI2⟩ := hE I J w (xs (nI (7 * q) + 1).toNatClampNeg) (xs (nI (7 * q) + 2).toNatClampNeg) hI
  refine lv_aload_n hx hb dL_law_497 rfl (lv_at hl 1 rfl) ?_
  refine lv_aload_n hx hb dL_law_498 rfl (lv_at hl 0 rfl) ?_
  refine lv_iload_n hx hb dL_law_499 rfl (lv_at hl 3 rfl) ?_
  refine lv_iconst (v := 1) hx hb dL_law_500 rfl ?_
  refine lv_iadd hx hb dL_law_501 ?_
  refine va_sld hx hb hX hbl hbA hS (lin hL hq 1 (by decide) rfl) dL_law_502 ?_
  refine lv_aload_n hx hb dL_law_503 rfl (lv_at hl 0 rfl) ?_
  refine lv_iload_n hx hb dL_law_504 rfl (lv_at hl 3 rfl) ?_
  refine lv_iconst (v := 2) hx hb dL_law_505 rfl ?_
  refine lv_iadd hx hb dL_law_506 ?_
  refine va_sld hx hb hX hbl hbA hS (lin hL hq 2 (by decide) rfl) dL_law_507 ?_
  refine L_callV (mj := gX11_named) (As := [.int (xs (nI (7 * q) + 1).toNatClampNeg), .int (xs (nI (7 * q) + 2).toNatClampNeg)]) (rest := []) hx hb hml hown hts hK hP hS hl.1 ml_L_56 vX11_named sl_0 sk_0 (by decide) rfl rfl (fun _ => rfl) (Nat.le_of_ble_eq_true rfl) (by decide) dL_law_508 (q_X11_named h1) (fun _ => rfl) (fun H locs hP hS => ?_)
  refine lv_aload_n hx hb dL_law_511 rfl (lv_at hl 2 rfl) ?_
  refine lv_aload_n hx hb dL_law_512 rfl (lv_at hl 0 rfl) ?_
  refine lv_iload_n hx hb dL_law_513 rfl (lv_at hl 3 rfl) ?_
  refine lv_iconst (v := 1) hx hb dL_law_514 rfl ?_
  refine lv_iadd hx hb dL_law_515 ?_
  refine va_sld hx hb hX hbl hbA hS (lin hL hq 1 (by decide) rfl) dL_law_516 ?_
  refine lv_aload_n hx hb dL_law_517 rfl (lv_at hl 0 rfl) ?_
  refine lv_iload_n hx hb dL_law_518 rfl (lv_at hl 3 rfl) ?_
  refine lv_iconst (v := 2) hx hb dL_law_519 rfl ?_
  refine lv_iadd hx hb dL_law_520 ?_
  refine va_sld hx hb hX hbl hbA hS (lin hL hq 2 (by decide) rfl) dL_law_521 ?_
  refine L_callV (mj := gX12_named) (As := [.int (xs (nI (7 * q) + 1).toNatClampNeg), .int (xs (nI (7 * q) + 2).toNatClampNeg)]) (rest := [.int v1.1]) hx hb hml hown hts hK hP hS hl.1 ml_L_59 vX12_named sl_149 sk_149 (by decide) rfl rfl (fun _ => rfl) (Nat.le_of_ble_eq_true rfl) (by decide) dL_law_522 (q_X12_named h2) (fun _ => rfl) (fun H locs hP hS => ?_)
  refine lv_icmp_eq (tgt := 1282) hx hb dL_law_525 (by decide) (fun _ => ?_) (fun hc => absurd heq hc)
  exact law_next l hL C0 hK hq hI2 ih H locs ls hP hS hl
set_option maxRecDepth 20000 in
theorem law_10 {p : Program} {e : Env} {s : State} {m : MethodId} {below : List Frame} {meth : Method} {c : Code} (l : Launch) {bs L : Nat} {xs : Nat → Int32} (hL : L ≤ 3584) (C0 : lw_At p s m meth c bs L xs) {D : va_G} {cA : Nat → ClassId} (hK : gKK D cA s) {Inv : gIt → gJt → Bool → Prop} (hE : EE_10 Inv) {q : Nat} (hq : 7 * q + 7 ≤ L) {I : gIt} {J : gJt} {w : Bool} (hI : Inv I J w) (ih : ∀ I J w, Inv I J w → ∀ (H : Heap) (locs : List Loc) (ls : Array Slot), va_P D gcl (gws s.heap.size cA gS0 I J (gR0 w)) H → va_S (fun q => s.heap.size ≤ q) s.heap H locs → lv_has ls 4 [(0, .ref bs), (1, .ref (s.heap.size + 0)), (2, .ref (s.heap.size + 149)), (3, .int (nI (7 * (q + 1))))] → W p l e room_1 s m #[Value.ref bs] below meth c H locs 194 9309 (lw_Z below #[Value.ref bs] s) (F0 m 18 ls [])) : ∀ (H : Heap) (locs : List Loc) (ls : Array Slot), va_P D gcl (gws s.heap.size cA gS0 I J (gR0 w)) H → va_S (fun q => s.heap.size ≤ q) s.heap H locs → lv_has ls 4 [(0, .ref bs), (1, .ref (s.heap.size + 0)), (2, .ref (s.heap.size + 149)), (3, .int (nI (7 * q)))] → W p l e room_1 s m #[Value.ref bs] below meth c H locs 194 9309 (lw_Z below #[Value.ref bs] s) (F0 m 530 ls []) := by
  obtain ⟨hx, hb, hr, hml, hown, hts, hX, hbl, hlocks, hgv⟩ := id C0
  have hbA : ¬ (fun q : Nat => s.heap.size ≤ q) bs := Nat.not_le.mpr hbl
  intro H locs ls hP hS hl
  obtain ⟨v1, h1, v2, h2, heq, hI2⟩ := hE I J w (xs (nI (7 * q) + 1).toNatClampNeg) (xs (nI (7 * q) + 2).toNatClampNeg) (xs (nI (7 * q) + 3).toNatClampNeg) hI
  refine lv_aload_n hx hb dL_law_530 rfl (lv_at hl 1 rfl) ?_
  refine lv_aload_n hx hb dL_law_531 rfl (lv_at hl 0 rfl) ?_
  refine lv_iload_n hx hb dL_law_532 rfl (lv_at hl 3 rfl) ?_
  refine lv_iconst (v := 1) hx hb dL_law_533 rfl ?_
  refine lv_iadd hx hb dL_law_534 ?_
  refine va_sld hx hb hX hbl hbA hS (lin hL hq 1 (by decide) rfl) dL_law_535 ?_
  refine lv_aload_n hx hb dL_law_536 rfl (lv_at hl 0 rfl) ?_
  refine lv_iload_n hx hb dL_law_537 rfl (lv_at hl 3 rfl) ?_
  refine lv_iconst (v := 2) hx hb dL_law_538 rfl ?_
  refine lv_iadd hx hb dL_law_539 ?_
  refine va_sld hx hb hX hbl hbA hS (lin hL hq 2 (by decide) rfl) dL_law_540 ?_
  refine lv_aload_n hx hb dL_law_541 rfl (lv_at hl 0 rfl) ?_
  refine lv_iload_n hx hb dL_law_542 rfl (lv_at hl 3 rfl) ?_
  refine lv_iconst (v := 3) hx hb dL_law_543 rfl ?_
  refine lv_iadd hx hb dL_law_544 ?_
  refine va_sld hx hb hX hbl hbA hS (lin hL hq 3 (by decide) rfl) dL_law_545 ?_
  refine L_callV (mj := gX11_falls) (As := [.int (xs (nI (7 * q) + 1).toNatClampNeg), .int (xs (nI (7 * q) + 2).toNatClampNeg), .int (xs (nI (7 * q) + 3).toNatClampNeg)]) (rest := []) hx hb hml hown hts hK hP hS hl.1 ml_L_60 vX11_falls sl_0 sk_0 (by decide) rfl rfl (fun _ => rfl) (Nat.le_of_ble_eq_true rfl) (by decide) dL_law_546 (q_X11_falls h1) (fun _ => rfl) (fun H locs hP hS => ?_)
  refine lv_aload_n hx hb dL_law_549 rfl (lv_at hl 2 rfl) ?_
  refine lv_aload_n hx hb dL_law_550 rfl (lv_at hl 0 rfl) ?_
  refine lv_iload_n hx hb dL_law_551 rfl (lv_at hl 3 rfl) ?_
  refine lv_iconst (v := 1) hx hb dL_law_552 rfl ?_
  refine lv_iadd hx hb dL_law_553 ?_
  refine va_sld hx hb hX hbl hbA hS (lin hL hq 1 (by decide) rfl) dL_law_554 ?_
  refine lv_aload_n hx hb dL_law_555 rfl (lv_at hl 0 rfl) ?_
  refine lv_iload_n hx hb dL_law_556 rfl (lv_at hl 3 rfl) ?_
  refine lv_iconst (v := 2) hx hb dL_law_557 rfl ?_
  refine lv_iadd hx hb dL_law_558 ?_
  refine va_sld hx hb hX hbl hbA hS (lin hL hq 2 (by decide) rfl) dL_law_559 ?_
  refine lv_aload_n hx hb dL_law_560 rfl (lv_at hl 0 rfl) ?_
  refine lv_iload_n hx hb dL_law_561 rfl (lv_at hl 3 rfl) ?_
  refine lv_iconst (v := 3) hx hb dL_law_562 rfl ?_
  refine lv_iadd hx hb dL_law_563 ?_
  refine va_sld hx hb hX hbl hbA hS (lin hL hq 3 (by decide) rfl) dL_law_564 ?_
  refine L_callV (mj := gX12_falls) (As := [.int (xs (nI (7 * q) + 1).toNatClampNeg), .int (xs (nI (7 * q) + 2).toNatClampNeg), .int (xs (nI (7 * q) + 3).toNatClampNeg)]) (rest := [.int v1.1]) hx hb hml hown hts hK hP hS hl.1 ml_L_64 vX12_falls sl_149 sk_149 (by decide) rfl rfl (fun _ => rfl) (Nat.le_of_ble_eq_true rfl) (by decide) dL_law_565 (q_X12_falls h2) (fun _ => rfl) (fun H locs hP hS => ?_)
  refine lv_icmp_eq (tgt := 1282) hx hb dL_law_568 (by decide) (fun _ => ?_) (fun hc => absurd heq hc)
  exact law_next l hL C0 hK hq hI2 ih H locs ls hP hS hl
set_option maxRecDepth 20000 in
theorem law_11 {p : Program} {e : Env} {s : State} {m : MethodId} {below : List Frame} {meth : Method} {c : Code} (l : Launch) {bs L : Nat} {xs : Nat → Int32} (hL : L ≤ 3584) (C0 : lw_At p s m meth c bs L xs) {D : va_G} {cA : Nat → ClassId} (hK : gKK D cA s) {Inv : gIt → gJt → Bool → Prop} (hE : EE_11 Inv) {q : Nat} (hq : 7 * q + 7 ≤ L) {I : gIt} {J : gJt} {w : Bool} (hI : Inv I J w) (ih : ∀ I J w, Inv I J w → ∀ (H : Heap) (locs : List Loc) (ls : Array Slot), va_P D gcl (gws s.heap.size cA gS0 I J (gR0 w)) H → va_S (fun q => s.heap.size ≤ q) s.heap H locs → lv_has ls 4 [(0, .ref bs), (1, .ref (s.heap.size + 0)), (2, .ref (s.heap.size + 149)), (3, .int (nI (7 * (q + 1))))] → W p l e room_1 s m #[Value.ref bs] below meth c H locs 194 9309 (lw_Z below #[Value.ref bs] s) (F0 m 18 ls [])) : ∀ (H : Heap) (locs : List Loc) (ls : Array Slot), va_P D gcl (gws s.heap.size cA gS0 I J (gR0 w)) H → va_S (fun q => s.heap.size ≤ q) s.heap H locs → lv_has ls 4 [(0, .ref bs), (1, .ref (s.heap.size + 0)), (2, .ref (s.heap.size + 149)), (3, .int (nI (7 * q)))] → W p l e room_1 s m #[Value.ref bs] below meth c H locs 194 9309 (lw_Z below #[Value.ref bs] s) (F0 m 573 ls []) := by
  obtain ⟨hx, hb, hr, hml, hown, hts, hX, hbl, hlocks, hgv⟩ := id C0
  have hbA : ¬ (fun q : Nat => s.heap.size ≤ q) bs := Nat.not_le.mpr hbl
  intro H locs ls hP hS hl
  obtain ⟨v1, h1, v2, h2, heq, hI2⟩ := hE I J w (xs (nI (7 * q) + 1).toNatClampNeg) (xs (nI (7 * q) + 2).toNatClampNeg) (xs (nI (7 * q) + 3).toNatClampNeg) (xs (nI (7 * q) + 4).toNatClampNeg) (xs (nI (7 * q) + 5).toNatClampNeg) hI
  refine lv_aload_n hx hb dL_law_573 rfl (lv_at hl 1 rfl) ?_
  refine lv_aload_n hx hb dL_law_574 rfl (lv_at hl 0 rfl) ?_
  refine lv_iload_n hx hb dL_law_575 rfl (lv_at hl 3 rfl) ?_
  refine lv_iconst (v := 1) hx hb dL_law_576 rfl ?_
  refine lv_iadd hx hb dL_law_577 ?_
  refine va_sld hx hb hX hbl hbA hS (lin hL hq 1 (by decide) rfl) dL_law_578 ?_
  refine lv_aload_n hx hb dL_law_579 rfl (lv_at hl 0 rfl) ?_
  refine lv_iload_n hx hb dL_law_580 rfl (lv_at hl 3 rfl) ?_
  refine lv_iconst (v := 2) hx hb dL_law_581 rfl ?_
  refine lv_iadd hx hb dL_law_582 ?_
  refine va_sld hx hb hX hbl hbA hS (lin hL hq 2 (by decide) rfl) dL_law_583 ?_
  refine lv_aload_n hx hb dL_law_584 rfl (lv_at hl 0 rfl) ?_
  refine lv_iload_n hx hb dL_law_585 rfl (lv_at hl 3 rfl) ?_
  refine lv_iconst (v := 3) hx hb dL_law_586 rfl ?_
  refine lv_iadd hx hb dL_law_587 ?_
  refine va_sld hx hb hX hbl hbA hS (lin hL hq 3 (by decide) rfl) dL_law_588 ?_
  refine lv_aload_n hx hb dL_law_589 rfl (lv_at hl 0 rfl) ?_
  refine lv_iload_n hx hb dL_law_590 rfl (lv_at hl 3 rfl) ?_
  refine lv_iconst (v := 4) hx hb dL_law_591 rfl ?_
  refine lv_iadd hx hb dL_law_592 ?_
  refine va_sld hx hb hX hbl hbA hS (lin hL hq 4 (by decide) rfl) dL_law_593 ?_
  refine lv_aload_n hx hb dL_law_594 rfl (lv_at hl 0 rfl) ?_
  refine lv_iload_n hx hb dL_law_595 rfl (lv_at hl 3 rfl) ?_
  refine lv_iconst (v := 5) hx hb dL_law_596 rfl ?_
  refine lv_iadd hx hb dL_law_597 ?_
  refine va_sld hx hb hX hbl hbA hS (lin hL hq 5 (by decide) rfl) dL_law_598 ?_
  refine L_callV (mj := gX11_chance) (As := [.int (xs (nI (7 * q) + 1).toNatClampNeg), .int (xs (nI (7 * q) + 2).toNatClampNeg), .int (xs (nI (7 * q) + 3).toNatClampNeg), .int (xs (nI (7 * q) + 4).toNatClampNeg), .int (xs (nI (7 * q) + 5).toNatClampNeg)]) (rest := []) hx hb hml hown hts hK hP hS hl.1 ml_L_65 vX11_chance sl_0 sk_0 (by decide) rfl rfl (fun _ => rfl) (Nat.le_of_ble_eq_true rfl) (by decide) dL_law_599 (q_X11_chance h1) (fun _ => rfl) (fun H locs hP hS => ?_)
  refine lv_aload_n hx hb dL_law_602 rfl (lv_at hl 2 rfl) ?_
  refine lv_aload_n hx hb dL_law_603 rfl (lv_at hl 0 rfl) ?_
  refine lv_iload_n hx hb dL_law_604 rfl (lv_at hl 3 rfl) ?_
  refine lv_iconst (v := 1) hx hb dL_law_605 rfl ?_
  refine lv_iadd hx hb dL_law_606 ?_
  refine va_sld hx hb hX hbl hbA hS (lin hL hq 1 (by decide) rfl) dL_law_607 ?_
  refine lv_aload_n hx hb dL_law_608 rfl (lv_at hl 0 rfl) ?_
  refine lv_iload_n hx hb dL_law_609 rfl (lv_at hl 3 rfl) ?_
  refine lv_iconst (v := 2) hx hb dL_law_610 rfl ?_
  refine lv_iadd hx hb dL_law_611 ?_
  refine va_sld hx hb hX hbl hbA hS (lin hL hq 2 (by decide) rfl) dL_law_612 ?_
  refine lv_aload_n hx hb dL_law_613 rfl (lv_at hl 0 rfl) ?_
  refine lv_iload_n hx hb dL_law_614 rfl (lv_at hl 3 rfl) ?_
  refine lv_iconst (v := 3) hx hb dL_law_615 rfl ?_
  refine lv_iadd hx hb dL_law_616 ?_
  refine va_sld hx hb hX hbl hbA hS (lin hL hq 3 (by decide) rfl) dL_law_617 ?_
  refine lv_aload_n hx hb dL_law_618 rfl (lv_at hl 0 rfl) ?_
  refine lv_iload_n hx hb dL_law_619 rfl (lv_at hl 3 rfl) ?_
  refine lv_iconst (v := 4) hx hb dL_law_620 rfl ?_
  refine lv_iadd hx hb dL_law_621 ?_
  refine va_sld hx hb hX hbl hbA hS (lin hL hq 4 (by decide) rfl) dL_law_622 ?_
  refine lv_aload_n hx hb dL_law_623 rfl (lv_at hl 0 rfl) ?_
  refine lv_iload_n hx hb dL_law_624 rfl (lv_at hl 3 rfl) ?_
  refine lv_iconst (v := 5) hx hb dL_law_625 rfl ?_
  refine lv_iadd hx hb dL_law_626 ?_
  refine va_sld hx hb hX hbl hbA hS (lin hL hq 5 (by decide) rfl) dL_law_627 ?_
  refine L_callV (mj := gX12_chance) (As := [.int (xs (nI (7 * q) + 1).toNatClampNeg), .int (xs (nI (7 * q) + 2).toNatClampNeg), .int (xs (nI (7 * q) + 3).toNatClampNeg), .int (xs (nI (7 * q) + 4).toNatClampNeg), .int (xs (nI (7 * q) + 5).toNatClampNeg)]) (rest := [.long v1.1]) hx hb hml hown hts hK hP hS hl.1 ml_L_69 vX12_chance sl_149 sk_149 (by decide) rfl rfl (fun _ => rfl) (Nat.le_of_ble_eq_true rfl) (by decide) dL_law_628 (q_X12_chance h2) (fun _ => rfl) (fun H locs hP hS => ?_)
  refine W.lcmp hx hb dL_law_631 ?_
  refine lv_if_eq (tgt := 1282) hx hb dL_law_632 (by decide) (fun _ => ?_) (fun hc => absurd (by rw [heq]; simp [lg_cmp]) hc)
  exact law_next l hL C0 hK hq hI2 ih H locs ls hP hS hl
set_option maxRecDepth 20000 in
theorem law_12 {p : Program} {e : Env} {s : State} {m : MethodId} {below : List Frame} {meth : Method} {c : Code} (l : Launch) {bs L : Nat} {xs : Nat → Int32} (hL : L ≤ 3584) (C0 : lw_At p s m meth c bs L xs) {D : va_G} {cA : Nat → ClassId} (hK : gKK D cA s) {Inv : gIt → gJt → Bool → Prop} (hE : EE_12 Inv) {q : Nat} (hq : 7 * q + 7 ≤ L) {I : gIt} {J : gJt} {w : Bool} (hI : Inv I J w) (ih : ∀ I J w, Inv I J w → ∀ (H : Heap) (locs : List Loc) (ls : Array Slot), va_P D gcl (gws s.heap.size cA gS0 I J (gR0 w)) H → va_S (fun q => s.heap.size ≤ q) s.heap H locs → lv_has ls 4 [(0, .ref bs), (1, .ref (s.heap.size + 0)), (2, .ref (s.heap.size + 149)), (3, .int (nI (7 * (q + 1))))] → W p l e room_1 s m #[Value.ref bs] below meth c H locs 194 9309 (lw_Z below #[Value.ref bs] s) (F0 m 18 ls [])) : ∀ (H : Heap) (locs : List Loc) (ls : Array Slot), va_P D gcl (gws s.heap.size cA gS0 I J (gR0 w)) H → va_S (fun q => s.heap.size ≤ q) s.heap H locs → lv_has ls 4 [(0, .ref bs), (1, .ref (s.heap.size + 0)), (2, .ref (s.heap.size + 149)), (3, .int (nI (7 * q)))] → W p l e room_1 s m #[Value.ref bs] below meth c H locs 194 9309 (lw_Z below #[Value.ref bs] s) (F0 m 637 ls []) := by
  obtain ⟨hx, hb, hr, hml, hown, hts, hX, hbl, hlocks, hgv⟩ := id C0
  have hbA : ¬ (fun q : Nat => s.heap.size ≤ q) bs := Nat.not_le.mpr hbl
  intro H locs ls hP hS hl
  obtain ⟨v1, h1, v2, h2, heq, hI2⟩ := hE I J w (xs (nI (7 * q) + 1).toNatClampNeg) (xs (nI (7 * q) + 2).toNatClampNeg) (xs (nI (7 * q) + 3).toNatClampNeg) (xs (nI (7 * q) + 4).toNatClampNeg) hI
  refine lv_aload_n hx hb dL_law_637 rfl (lv_at hl 1 rfl) ?_
  refine lv_aload_n hx hb dL_law_638 rfl (lv_at hl 0 rfl) ?_
  refine lv_iload_n hx hb dL_law_639 rfl (lv_at hl 3 rfl) ?_
  refine lv_iconst (v := 1) hx hb dL_law_640 rfl ?_
  refine lv_iadd hx hb dL_law_641 ?_
  refine va_sld hx hb hX hbl hbA hS (lin hL hq 1 (by decide) rfl) dL_law_642 ?_
  refine lv_aload_n hx hb dL_law_643 rfl (lv_at hl 0 rfl) ?_
  refine lv_iload_n hx hb dL_law_644 rfl (lv_at hl 3 rfl) ?_
  refine lv_iconst (v := 2) hx hb dL_law_645 rfl ?_
  refine lv_iadd hx hb dL_law_646 ?_
  refine va_sld hx hb hX hbl hbA hS (lin hL hq 2 (by decide) rfl) dL_law_647 ?_
  refine lv_aload_n hx hb dL_law_648 rfl (lv_at hl 0 rfl) ?_
  refine lv_iload_n hx hb dL_law_649 rfl (lv_at hl 3 rfl) ?_
  refine lv_iconst (v := 3) hx hb dL_law_650 rfl ?_
  refine lv_iadd hx hb dL_law_651 ?_
  refine va_sld hx hb hX hbl hbA hS (lin hL hq 3 (by decide) rfl) dL_law_652 ?_
  refine lv_aload_n hx hb dL_law_653 rfl (lv_at hl 0 rfl) ?_
  refine lv_iload_n hx hb dL_law_654 rfl (lv_at hl 3 rfl) ?_
  refine lv_iconst (v := 4) hx hb dL_law_655 rfl ?_
  refine lv_iadd hx hb dL_law_656 ?_
  refine va_sld hx hb hX hbl hbA hS (lin hL hq 4 (by decide) rfl) dL_law_657 ?_
  refine L_callV (mj := gX11_worth) (As := [.int (xs (nI (7 * q) + 1).toNatClampNeg), .int (xs (nI (7 * q) + 2).toNatClampNeg), .int (xs (nI (7 * q) + 3).toNatClampNeg), .int (xs (nI (7 * q) + 4).toNatClampNeg)]) (rest := []) hx hb hml hown hts hK hP hS hl.1 ml_L_70 vX11_worth sl_0 sk_0 (by decide) rfl rfl (fun _ => rfl) (Nat.le_of_ble_eq_true rfl) (by decide) dL_law_658 (q_X11_worth h1) (fun _ => rfl) (fun H locs hP hS => ?_)
  refine lv_aload_n hx hb dL_law_661 rfl (lv_at hl 2 rfl) ?_
  refine lv_aload_n hx hb dL_law_662 rfl (lv_at hl 0 rfl) ?_
  refine lv_iload_n hx hb dL_law_663 rfl (lv_at hl 3 rfl) ?_
  refine lv_iconst (v := 1) hx hb dL_law_664 rfl ?_
  refine lv_iadd hx hb dL_law_665 ?_
  refine va_sld hx hb hX hbl hbA hS (lin hL hq 1 (by decide) rfl) dL_law_666 ?_
  refine lv_aload_n hx hb dL_law_667 rfl (lv_at hl 0 rfl) ?_
  refine lv_iload_n hx hb dL_law_668 rfl (lv_at hl 3 rfl) ?_
  refine lv_iconst (v := 2) hx hb dL_law_669 rfl ?_
  refine lv_iadd hx hb dL_law_670 ?_
  refine va_sld hx hb hX hbl hbA hS (lin hL hq 2 (by decide) rfl) dL_law_671 ?_
  refine lv_aload_n hx hb dL_law_672 rfl (lv_at hl 0 rfl) ?_
  refine lv_iload_n hx hb dL_law_673 rfl (lv_at hl 3 rfl) ?_
  refine lv_iconst (v := 3) hx hb dL_law_674 rfl ?_
  refine lv_iadd hx hb dL_law_675 ?_
  refine va_sld hx hb hX hbl hbA hS (lin hL hq 3 (by decide) rfl) dL_law_676 ?_
  refine lv_aload_n hx hb dL_law_677 rfl (lv_at hl 0 rfl) ?_
  refine lv_iload_n hx hb dL_law_678 rfl (lv_at hl 3 rfl) ?_
  refine lv_iconst (v := 4) hx hb dL_law_679 rfl ?_
  refine lv_iadd hx hb dL_law_680 ?_
  refine va_sld hx hb hX hbl hbA hS (lin hL hq 4 (by decide) rfl) dL_law_681 ?_
  refine L_callV (mj := gX12_worth) (As := [.int (xs (nI (7 * q) + 1).toNatClampNeg), .int (xs (nI (7 * q) + 2).toNatClampNeg), .int (xs (nI (7 * q) + 3).toNatClampNeg), .int (xs (nI (7 * q) + 4).toNatClampNeg)]) (rest := [.long v1.1]) hx hb hml hown hts hK hP hS hl.1 ml_L_74 vX12_worth sl_149 sk_149 (by decide) rfl rfl (fun _ => rfl) (Nat.le_of_ble_eq_true rfl) (by decide) dL_law_682 (q_X12_worth h2) (fun _ => rfl) (fun H locs hP hS => ?_)
  refine W.lcmp hx hb dL_law_685 ?_
  refine lv_if_eq (tgt := 1282) hx hb dL_law_686 (by decide) (fun _ => ?_) (fun hc => absurd (by rw [heq]; simp [lg_cmp]) hc)
  exact law_next l hL C0 hK hq hI2 ih H locs ls hP hS hl
set_option maxRecDepth 20000 in
theorem law_13 {p : Program} {e : Env} {s : State} {m : MethodId} {below : List Frame} {meth : Method} {c : Code} (l : Launch) {bs L : Nat} {xs : Nat → Int32} (hL : L ≤ 3584) (C0 : lw_At p s m meth c bs L xs) {D : va_G} {cA : Nat → ClassId} (hK : gKK D cA s) {Inv : gIt → gJt → Bool → Prop} (hE : EE_13 Inv) {q : Nat} (hq : 7 * q + 7 ≤ L) {I : gIt} {J : gJt} {w : Bool} (hI : Inv I J w) (ih : ∀ I J w, Inv I J w → ∀ (H : Heap) (locs : List Loc) (ls : Array Slot), va_P D gcl (gws s.heap.size cA gS0 I J (gR0 w)) H → va_S (fun q => s.heap.size ≤ q) s.heap H locs → lv_has ls 4 [(0, .ref bs), (1, .ref (s.heap.size + 0)), (2, .ref (s.heap.size + 149)), (3, .int (nI (7 * (q + 1))))] → W p l e room_1 s m #[Value.ref bs] below meth c H locs 194 9309 (lw_Z below #[Value.ref bs] s) (F0 m 18 ls [])) : ∀ (H : Heap) (locs : List Loc) (ls : Array Slot), va_P D gcl (gws s.heap.size cA gS0 I J (gR0 w)) H → va_S (fun q => s.heap.size ≤ q) s.heap H locs → lv_has ls 4 [(0, .ref bs), (1, .ref (s.heap.size + 0)), (2, .ref (s.heap.size + 149)), (3, .int (nI (7 * q)))] → W p l e room_1 s m #[Value.ref bs] below meth c H locs 194 9309 (lw_Z below #[Value.ref bs] s) (F0 m 691 ls []) := by
  obtain ⟨hx, hb, hr, hml, hown, hts, hX, hbl, hlocks, hgv⟩ := id C0
  have hbA : ¬ (fun q : Nat => s.heap.size ≤ q) bs := Nat.not_le.mpr hbl
  intro H locs ls hP hS hl
  by_cases hz : xs (nI (7 * q) + 6).toNatClampNeg = 0
  · obtain ⟨v1, h1, v2, h2, heq, hI2⟩ := hE I J w (xs (nI (7 * q) + 1).toNatClampNeg) (xs (nI (7 * q) + 2).toNatClampNeg) (xs (nI (7 * q) + 3).toNatClampNeg) (xs (nI (7 * q) + 4).toNatClampNeg) (xs (nI (7 * q) + 5).toNatClampNeg) (0 : Int32) hI (Or.inl rfl)
    refine lv_aload_n hx hb dL_law_691 rfl (lv_at hl 1 rfl) ?_
    refine lv_aload_n hx hb dL_law_692 rfl (lv_at hl 0 rfl) ?_
    refine lv_iload_n hx hb dL_law_693 rfl (lv_at hl 3 rfl) ?_
    refine lv_iconst (v := 1) hx hb dL_law_694 rfl ?_
    refine lv_iadd hx hb dL_law_695 ?_
    refine va_sld hx hb hX hbl hbA hS (lin hL hq 1 (by decide) rfl) dL_law_696 ?_
    refine lv_aload_n hx hb dL_law_697 rfl (lv_at hl 0 rfl) ?_
    refine lv_iload_n hx hb dL_law_698 rfl (lv_at hl 3 rfl) ?_
    refine lv_iconst (v := 2) hx hb dL_law_699 rfl ?_
    refine lv_iadd hx hb dL_law_700 ?_
    refine va_sld hx hb hX hbl hbA hS (lin hL hq 2 (by decide) rfl) dL_law_701 ?_
    refine lv_aload_n hx hb dL_law_702 rfl (lv_at hl 0 rfl) ?_
    refine lv_iload_n hx hb dL_law_703 rfl (lv_at hl 3 rfl) ?_
    refine lv_iconst (v := 3) hx hb dL_law_704 rfl ?_
    refine lv_iadd hx hb dL_law_705 ?_
    refine va_sld hx hb hX hbl hbA hS (lin hL hq 3 (by decide) rfl) dL_law_706 ?_
    refine lv_aload_n hx hb dL_law_707 rfl (lv_at hl 0 rfl) ?_
    refine lv_iload_n hx hb dL_law_708 rfl (lv_at hl 3 rfl) ?_
    refine lv_iconst (v := 4) hx hb dL_law_709 rfl ?_
    refine lv_iadd hx hb dL_law_710 ?_
    refine va_sld hx hb hX hbl hbA hS (lin hL hq 4 (by decide) rfl) dL_law_711 ?_
    refine lv_aload_n hx hb dL_law_712 rfl (lv_at hl 0 rfl) ?_
    refine lv_iload_n hx hb dL_law_713 rfl (lv_at hl 3 rfl) ?_
    refine lv_iconst (v := 5) hx hb dL_law_714 rfl ?_
    refine lv_iadd hx hb dL_law_715 ?_
    refine va_sld hx hb hX hbl hbA hS (lin hL hq 5 (by decide) rfl) dL_law_716 ?_
    refine lv_aload_n hx hb dL_law_717 rfl (lv_at hl 0 rfl) ?_
    refine lv_iload_n hx hb dL_law_718 rfl (lv_at hl 3 rfl) ?_
    refine lv_bipush (v := 6) hx hb dL_law_719 rfl ?_
    refine lv_iadd hx hb dL_law_721 ?_
    refine va_sld hx hb hX hbl hbA hS (lin hL hq 6 (by decide) rfl) dL_law_722 ?_
    refine lv_if_eq (tgt := 730) hx hb dL_law_723 (by decide) (fun _ => ?_) (fun hc => absurd hz hc)
    refine lv_iconst (v := 0) hx hb dL_law_730 rfl ?_
    refine L_callV (mj := gX11_sale) (As := [.int (xs (nI (7 * q) + 1).toNatClampNeg), .int (xs (nI (7 * q) + 2).toNatClampNeg), .int (xs (nI (7 * q) + 3).toNatClampNeg), .int (xs (nI (7 * q) + 4).toNatClampNeg), .int (xs (nI (7 * q) + 5).toNatClampNeg), .int (0 : Int32)]) (rest := []) hx hb hml hown hts hK hP hS hl.1 ml_L_75 vX11_sale sl_0 sk_0 (by decide) rfl rfl (fun _ => rfl) (Nat.le_of_ble_eq_true rfl) (by decide) dL_law_731 (q_X11_sale h1) (fun _ => rfl) (fun H locs hP hS => ?_)
    refine lv_aload_n hx hb dL_law_734 rfl (lv_at hl 2 rfl) ?_
    refine lv_aload_n hx hb dL_law_735 rfl (lv_at hl 0 rfl) ?_
    refine lv_iload_n hx hb dL_law_736 rfl (lv_at hl 3 rfl) ?_
    refine lv_iconst (v := 1) hx hb dL_law_737 rfl ?_
    refine lv_iadd hx hb dL_law_738 ?_
    refine va_sld hx hb hX hbl hbA hS (lin hL hq 1 (by decide) rfl) dL_law_739 ?_
    refine lv_aload_n hx hb dL_law_740 rfl (lv_at hl 0 rfl) ?_
    refine lv_iload_n hx hb dL_law_741 rfl (lv_at hl 3 rfl) ?_
    refine lv_iconst (v := 2) hx hb dL_law_742 rfl ?_
    refine lv_iadd hx hb dL_law_743 ?_
    refine va_sld hx hb hX hbl hbA hS (lin hL hq 2 (by decide) rfl) dL_law_744 ?_
    refine lv_aload_n hx hb dL_law_745 rfl (lv_at hl 0 rfl) ?_
    refine lv_iload_n hx hb dL_law_746 rfl (lv_at hl 3 rfl) ?_
    refine lv_iconst (v := 3) hx hb dL_law_747 rfl ?_
    refine lv_iadd hx hb dL_law_748 ?_
    refine va_sld hx hb hX hbl hbA hS (lin hL hq 3 (by decide) rfl) dL_law_749 ?_
    refine lv_aload_n hx hb dL_law_750 rfl (lv_at hl 0 rfl) ?_
    refine lv_iload_n hx hb dL_law_751 rfl (lv_at hl 3 rfl) ?_
    refine lv_iconst (v := 4) hx hb dL_law_752 rfl ?_
    refine lv_iadd hx hb dL_law_753 ?_
    refine va_sld hx hb hX hbl hbA hS (lin hL hq 4 (by decide) rfl) dL_law_754 ?_
    refine lv_aload_n hx hb dL_law_755 rfl (lv_at hl 0 rfl) ?_
    refine lv_iload_n hx hb dL_law_756 rfl (lv_at hl 3 rfl) ?_
    refine lv_iconst (v := 5) hx hb dL_law_757 rfl ?_
    refine lv_iadd hx hb dL_law_758 ?_
    refine va_sld hx hb hX hbl hbA hS (lin hL hq 5 (by decide) rfl) dL_law_759 ?_
    refine lv_aload_n hx hb dL_law_760 rfl (lv_at hl 0 rfl) ?_
    refine lv_iload_n hx hb dL_law_761 rfl (lv_at hl 3 rfl) ?_
    refine lv_bipush (v := 6) hx hb dL_law_762 rfl ?_
    refine lv_iadd hx hb dL_law_764 ?_
    refine va_sld hx hb hX hbl hbA hS (lin hL hq 6 (by decide) rfl) dL_law_765 ?_
    refine lv_if_eq (tgt := 773) hx hb dL_law_766 (by decide) (fun _ => ?_) (fun hc => absurd hz hc)
    refine lv_iconst (v := 0) hx hb dL_law_773 rfl ?_
    refine L_callV (mj := gX12_sale) (As := [.int (xs (nI (7 * q) + 1).toNatClampNeg), .int (xs (nI (7 * q) + 2).toNatClampNeg), .int (xs (nI (7 * q) + 3).toNatClampNeg), .int (xs (nI (7 * q) + 4).toNatClampNeg), .int (xs (nI (7 * q) + 5).toNatClampNeg), .int (0 : Int32)]) (rest := [.int v1.1]) hx hb hml hown hts hK hP hS hl.1 ml_L_79 vX12_sale sl_149 sk_149 (by decide) rfl rfl (fun _ => rfl) (Nat.le_of_ble_eq_true rfl) (by decide) dL_law_774 (q_X12_sale h2) (fun _ => rfl) (fun H locs hP hS => ?_)
    refine lv_icmp_eq (tgt := 1282) hx hb dL_law_777 (by decide) (fun _ => ?_) (fun hc => absurd heq hc)
    exact law_next l hL C0 hK hq hI2 ih H locs ls hP hS hl
  · obtain ⟨v1, h1, v2, h2, heq, hI2⟩ := hE I J w (xs (nI (7 * q) + 1).toNatClampNeg) (xs (nI (7 * q) + 2).toNatClampNeg) (xs (nI (7 * q) + 3).toNatClampNeg) (xs (nI (7 * q) + 4).toNatClampNeg) (xs (nI (7 * q) + 5).toNatClampNeg) (1 : Int32) hI (Or.inr rfl)
    refine lv_aload_n hx hb dL_law_691 rfl (lv_at hl 1 rfl) ?_
    refine lv_aload_n hx hb dL_law_692 rfl (lv_at hl 0 rfl) ?_
    refine lv_iload_n hx hb dL_law_693 rfl (lv_at hl 3 rfl) ?_
    refine lv_iconst (v := 1) hx hb dL_law_694 rfl ?_
    refine lv_iadd hx hb dL_law_695 ?_
    refine va_sld hx hb hX hbl hbA hS (lin hL hq 1 (by decide) rfl) dL_law_696 ?_
    refine lv_aload_n hx hb dL_law_697 rfl (lv_at hl 0 rfl) ?_
    refine lv_iload_n hx hb dL_law_698 rfl (lv_at hl 3 rfl) ?_
    refine lv_iconst (v := 2) hx hb dL_law_699 rfl ?_
    refine lv_iadd hx hb dL_law_700 ?_
    refine va_sld hx hb hX hbl hbA hS (lin hL hq 2 (by decide) rfl) dL_law_701 ?_
    refine lv_aload_n hx hb dL_law_702 rfl (lv_at hl 0 rfl) ?_
    refine lv_iload_n hx hb dL_law_703 rfl (lv_at hl 3 rfl) ?_
    refine lv_iconst (v := 3) hx hb dL_law_704 rfl ?_
    refine lv_iadd hx hb dL_law_705 ?_
    refine va_sld hx hb hX hbl hbA hS (lin hL hq 3 (by decide) rfl) dL_law_706 ?_
    refine lv_aload_n hx hb dL_law_707 rfl (lv_at hl 0 rfl) ?_
    refine lv_iload_n hx hb dL_law_708 rfl (lv_at hl 3 rfl) ?_
    refine lv_iconst (v := 4) hx hb dL_law_709 rfl ?_
    refine lv_iadd hx hb dL_law_710 ?_
    refine va_sld hx hb hX hbl hbA hS (lin hL hq 4 (by decide) rfl) dL_law_711 ?_
    refine lv_aload_n hx hb dL_law_712 rfl (lv_at hl 0 rfl) ?_
    refine lv_iload_n hx hb dL_law_713 rfl (lv_at hl 3 rfl) ?_
    refine lv_iconst (v := 5) hx hb dL_law_714 rfl ?_
    refine lv_iadd hx hb dL_law_715 ?_
    refine va_sld hx hb hX hbl hbA hS (lin hL hq 5 (by decide) rfl) dL_law_716 ?_
    refine lv_aload_n hx hb dL_law_717 rfl (lv_at hl 0 rfl) ?_
    refine lv_iload_n hx hb dL_law_718 rfl (lv_at hl 3 rfl) ?_
    refine lv_bipush (v := 6) hx hb dL_law_719 rfl ?_
    refine lv_iadd hx hb dL_law_721 ?_
    refine va_sld hx hb hX hbl hbA hS (lin hL hq 6 (by decide) rfl) dL_law_722 ?_
    refine lv_if_eq (tgt := 730) hx hb dL_law_723 (by decide) (fun hc => absurd hc hz) (fun _ => ?_)
    refine lv_iconst (v := 1) hx hb dL_law_726 rfl ?_
    refine lv_goto (tgt := 731) hx hb dL_law_727 (by decide) ?_
    refine L_callV (mj := gX11_sale) (As := [.int (xs (nI (7 * q) + 1).toNatClampNeg), .int (xs (nI (7 * q) + 2).toNatClampNeg), .int (xs (nI (7 * q) + 3).toNatClampNeg), .int (xs (nI (7 * q) + 4).toNatClampNeg), .int (xs (nI (7 * q) + 5).toNatClampNeg), .int (1 : Int32)]) (rest := []) hx hb hml hown hts hK hP hS hl.1 ml_L_75 vX11_sale sl_0 sk_0 (by decide) rfl rfl (fun _ => rfl) (Nat.le_of_ble_eq_true rfl) (by decide) dL_law_731 (q_X11_sale h1) (fun _ => rfl) (fun H locs hP hS => ?_)
    refine lv_aload_n hx hb dL_law_734 rfl (lv_at hl 2 rfl) ?_
    refine lv_aload_n hx hb dL_law_735 rfl (lv_at hl 0 rfl) ?_
    refine lv_iload_n hx hb dL_law_736 rfl (lv_at hl 3 rfl) ?_
    refine lv_iconst (v := 1) hx hb dL_law_737 rfl ?_
    refine lv_iadd hx hb dL_law_738 ?_
    refine va_sld hx hb hX hbl hbA hS (lin hL hq 1 (by decide) rfl) dL_law_739 ?_
    refine lv_aload_n hx hb dL_law_740 rfl (lv_at hl 0 rfl) ?_
    refine lv_iload_n hx hb dL_law_741 rfl (lv_at hl 3 rfl) ?_
    refine lv_iconst (v := 2) hx hb dL_law_742 rfl ?_
    refine lv_iadd hx hb dL_law_743 ?_
    refine va_sld hx hb hX hbl hbA hS (lin hL hq 2 (by decide) rfl) dL_law_744 ?_
    refine lv_aload_n hx hb dL_law_745 rfl (lv_at hl 0 rfl) ?_
    refine lv_iload_n hx hb dL_law_746 rfl (lv_at hl 3 rfl) ?_
    refine lv_iconst (v := 3) hx hb dL_law_747 rfl ?_
    refine lv_iadd hx hb dL_law_748 ?_
    refine va_sld hx hb hX hbl hbA hS (lin hL hq 3 (by decide) rfl) dL_law_749 ?_
    refine lv_aload_n hx hb dL_law_750 rfl (lv_at hl 0 rfl) ?_
    refine lv_iload_n hx hb dL_law_751 rfl (lv_at hl 3 rfl) ?_
    refine lv_iconst (v := 4) hx hb dL_law_752 rfl ?_
    refine lv_iadd hx hb dL_law_753 ?_
    refine va_sld hx hb hX hbl hbA hS (lin hL hq 4 (by decide) rfl) dL_law_754 ?_
    refine lv_aload_n hx hb dL_law_755 rfl (lv_at hl 0 rfl) ?_
    refine lv_iload_n hx hb dL_law_756 rfl (lv_at hl 3 rfl) ?_
    refine lv_iconst (v := 5) hx hb dL_law_757 rfl ?_
    refine lv_iadd hx hb dL_law_758 ?_
    refine va_sld hx hb hX hbl hbA hS (lin hL hq 5 (by decide) rfl) dL_law_759 ?_
    refine lv_aload_n hx hb dL_law_760 rfl (lv_at hl 0 rfl) ?_
    refine lv_iload_n hx hb dL_law_761 rfl (lv_at hl 3 rfl) ?_
    refine lv_bipush (v := 6) hx hb dL_law_762 rfl ?_
    refine lv_iadd hx hb dL_law_764 ?_
    refine va_sld hx hb hX hbl hbA hS (lin hL hq 6 (by decide) rfl) dL_law_765 ?_
    refine lv_if_eq (tgt := 773) hx hb dL_law_766 (by decide) (fun hc => absurd hc hz) (fun _ => ?_)
    refine lv_iconst (v := 1) hx hb dL_law_769 rfl ?_
    refine lv_goto (tgt := 774) hx hb dL_law_770 (by decide) ?_
    refine L_callV (mj := gX12_sale) (As := [.int (xs (nI (7 * q) + 1).toNatClampNeg), .int (xs (nI (7 * q) + 2).toNatClampNeg), .int (xs (nI (7 * q) + 3).toNatClampNeg), .int (xs (nI (7 * q) + 4).toNatClampNeg), .int (xs (nI (7 * q) + 5).toNatClampNeg), .int (1 : Int32)]) (rest := [.int v1.1]) hx hb hml hown hts hK hP hS hl.1 ml_L_79 vX12_sale sl_149 sk_149 (by decide) rfl rfl (fun _ => rfl) (Nat.le_of_ble_eq_true rfl) (by decide) dL_law_774 (q_X12_sale h2) (fun _ => rfl) (fun H locs hP hS => ?_)
    refine lv_icmp_eq (tgt := 1282) hx hb dL_law_777 (by decide) (fun _ => ?_) (fun hc => absurd heq hc)
    exact law_next l hL C0 hK hq hI2 ih H locs ls hP hS hl
set_option maxRecDepth 20000 in
theorem law_14 {p : Program} {e : Env} {s : State} {m : MethodId} {below : List Frame} {meth : Method} {c : Code} (l : Launch) {bs L : Nat} {xs : Nat → Int32} (hL : L ≤ 3584) (C0 : lw_At p s m meth c bs L xs) {D : va_G} {cA : Nat → ClassId} (hK : gKK D cA s) {Inv : gIt → gJt → Bool → Prop} (hE : EE_14 Inv) {q : Nat} (hq : 7 * q + 7 ≤ L) {I : gIt} {J : gJt} {w : Bool} (hI : Inv I J w) (ih : ∀ I J w, Inv I J w → ∀ (H : Heap) (locs : List Loc) (ls : Array Slot), va_P D gcl (gws s.heap.size cA gS0 I J (gR0 w)) H → va_S (fun q => s.heap.size ≤ q) s.heap H locs → lv_has ls 4 [(0, .ref bs), (1, .ref (s.heap.size + 0)), (2, .ref (s.heap.size + 149)), (3, .int (nI (7 * (q + 1))))] → W p l e room_1 s m #[Value.ref bs] below meth c H locs 194 9309 (lw_Z below #[Value.ref bs] s) (F0 m 18 ls [])) : ∀ (H : Heap) (locs : List Loc) (ls : Array Slot), va_P D gcl (gws s.heap.size cA gS0 I J (gR0 w)) H → va_S (fun q => s.heap.size ≤ q) s.heap H locs → lv_has ls 4 [(0, .ref bs), (1, .ref (s.heap.size + 0)), (2, .ref (s.heap.size + 149)), (3, .int (nI (7 * q)))] → W p l e room_1 s m #[Value.ref bs] below meth c H locs 194 9309 (lw_Z below #[Value.ref bs] s) (F0 m 782 ls []) := by
  obtain ⟨hx, hb, hr, hml, hown, hts, hX, hbl, hlocks, hgv⟩ := id C0
  have hbA : ¬ (fun q : Nat => s.heap.size ≤ q) bs := Nat.not_le.mpr hbl
  intro H locs ls hP hS hl
  obtain ⟨v1, h1, v2, h2, heq, hI2⟩ := hE I J w (xs (nI (7 * q) + 1).toNatClampNeg) (xs (nI (7 * q) + 2).toNatClampNeg) hI
  refine lv_aload_n hx hb dL_law_782 rfl (lv_at hl 1 rfl) ?_
  refine lv_aload_n hx hb dL_law_783 rfl (lv_at hl 0 rfl) ?_
  refine lv_iload_n hx hb dL_law_784 rfl (lv_at hl 3 rfl) ?_
  refine lv_iconst (v := 1) hx hb dL_law_785 rfl ?_
  refine lv_iadd hx hb dL_law_786 ?_
  refine va_sld hx hb hX hbl hbA hS (lin hL hq 1 (by decide) rfl) dL_law_787 ?_
  refine lv_aload_n hx hb dL_law_788 rfl (lv_at hl 0 rfl) ?_
  refine lv_iload_n hx hb dL_law_789 rfl (lv_at hl 3 rfl) ?_
  refine lv_iconst (v := 2) hx hb dL_law_790 rfl ?_
  refine lv_iadd hx hb dL_law_791 ?_
  refine va_sld hx hb hX hbl hbA hS (lin hL hq 2 (by decide) rfl) dL_law_792 ?_
  refine L_callV (mj := gX11_notice) (As := [.int (xs (nI (7 * q) + 1).toNatClampNeg), .int (xs (nI (7 * q) + 2).toNatClampNeg)]) (rest := []) hx hb hml hown hts hK hP hS hl.1 ml_L_80 vX11_notice sl_0 sk_0 (by decide) rfl rfl (fun _ => rfl) (Nat.le_of_ble_eq_true rfl) (by decide) dL_law_793 (q_X11_notice h1) (fun _ => rfl) (fun H locs hP hS => ?_)
  refine lv_aload_n hx hb dL_law_796 rfl (lv_at hl 2 rfl) ?_
  refine lv_aload_n hx hb dL_law_797 rfl (lv_at hl 0 rfl) ?_
  refine lv_iload_n hx hb dL_law_798 rfl (lv_at hl 3 rfl) ?_
  refine lv_iconst (v := 1) hx hb dL_law_799 rfl ?_
  refine lv_iadd hx hb dL_law_800 ?_
  refine va_sld hx hb hX hbl hbA hS (lin hL hq 1 (by decide) rfl) dL_law_801 ?_
  refine lv_aload_n hx hb dL_law_802 rfl (lv_at hl 0 rfl) ?_
  refine lv_iload_n hx hb dL_law_803 rfl (lv_at hl 3 rfl) ?_
  refine lv_iconst (v := 2) hx hb dL_law_804 rfl ?_
  refine lv_iadd hx hb dL_law_805 ?_
  refine va_sld hx hb hX hbl hbA hS (lin hL hq 2 (by decide) rfl) dL_law_806 ?_
  refine L_callV (mj := gX12_notice) (As := [.int (xs (nI (7 * q) + 1).toNatClampNeg), .int (xs (nI (7 * q) + 2).toNatClampNeg)]) (rest := [.int v1.1]) hx hb hml hown hts hK hP hS hl.1 ml_L_83 vX12_notice sl_149 sk_149 (by decide) rfl rfl (fun _ => rfl) (Nat.le_of_ble_eq_true rfl) (by decide) dL_law_807 (q_X12_notice h2) (fun _ => rfl) (fun H locs hP hS => ?_)
  refine lv_icmp_eq (tgt := 1282) hx hb dL_law_810 (by decide) (fun _ => ?_) (fun hc => absurd heq hc)
  exact law_next l hL C0 hK hq hI2 ih H locs ls hP hS hl
set_option maxRecDepth 20000 in
theorem law_15 {p : Program} {e : Env} {s : State} {m : MethodId} {below : List Frame} {meth : Method} {c : Code} (l : Launch) {bs L : Nat} {xs : Nat → Int32} (hL : L ≤ 3584) (C0 : lw_At p s m meth c bs L xs) {D : va_G} {cA : Nat → ClassId} (hK : gKK D cA s) {Inv : gIt → gJt → Bool → Prop} (hE : EE_15 Inv) {q : Nat} (hq : 7 * q + 7 ≤ L) {I : gIt} {J : gJt} {w : Bool} (hI : Inv I J w) (ih : ∀ I J w, Inv I J w → ∀ (H : Heap) (locs : List Loc) (ls : Array Slot), va_P D gcl (gws s.heap.size cA gS0 I J (gR0 w)) H → va_S (fun q => s.heap.size ≤ q) s.heap H locs → lv_has ls 4 [(0, .ref bs), (1, .ref (s.heap.size + 0)), (2, .ref (s.heap.size + 149)), (3, .int (nI (7 * (q + 1))))] → W p l e room_1 s m #[Value.ref bs] below meth c H locs 194 9309 (lw_Z below #[Value.ref bs] s) (F0 m 18 ls [])) : ∀ (H : Heap) (locs : List Loc) (ls : Array Slot), va_P D gcl (gws s.heap.size cA gS0 I J (gR0 w)) H → va_S (fun q => s.heap.size ≤ q) s.heap H locs → lv_has ls 4 [(0, .ref bs), (1, .ref (s.heap.size + 0)), (2, .ref (s.heap.size + 149)), (3, .int (nI (7 * q)))] → W p l e room_1 s m #[Value.ref bs] below meth c H locs 194 9309 (lw_Z below #[Value.ref bs] s) (F0 m 815 ls []) := by
  obtain ⟨hx, hb, hr, hml, hown, hts, hX, hbl, hlocks, hgv⟩ := id C0
  have hbA : ¬ (fun q : Nat => s.heap.size ≤ q) bs := Nat.not_le.mpr hbl
  intro H locs ls hP hS hl
  obtain ⟨v1, h1, v2, h2, heq, hI2⟩ := hE I J w (xs (nI (7 * q) + 1).toNatClampNeg) (xs (nI (7 * q) + 2).toNatClampNeg) (xs (nI (7 * q) + 3).toNatClampNeg) (xs (nI (7 * q) + 4).toNatClampNeg) hI
  refine lv_aload_n hx hb dL_law_815 rfl (lv_at hl 1 rfl) ?_
  refine lv_aload_n hx hb dL_law_816 rfl (lv_at hl 0 rfl) ?_
  refine lv_iload_n hx hb dL_law_817 rfl (lv_at hl 3 rfl) ?_
  refine lv_iconst (v := 1) hx hb dL_law_818 rfl ?_
  refine lv_iadd hx hb dL_law_819 ?_
  refine va_sld hx hb hX hbl hbA hS (lin hL hq 1 (by decide) rfl) dL_law_820 ?_
  refine lv_aload_n hx hb dL_law_821 rfl (lv_at hl 0 rfl) ?_
  refine lv_iload_n hx hb dL_law_822 rfl (lv_at hl 3 rfl) ?_
  refine lv_iconst (v := 2) hx hb dL_law_823 rfl ?_
  refine lv_iadd hx hb dL_law_824 ?_
  refine va_sld hx hb hX hbl hbA hS (lin hL hq 2 (by decide) rfl) dL_law_825 ?_
  refine lv_aload_n hx hb dL_law_826 rfl (lv_at hl 0 rfl) ?_
  refine lv_iload_n hx hb dL_law_827 rfl (lv_at hl 3 rfl) ?_
  refine lv_iconst (v := 3) hx hb dL_law_828 rfl ?_
  refine lv_iadd hx hb dL_law_829 ?_
  refine va_sld hx hb hX hbl hbA hS (lin hL hq 3 (by decide) rfl) dL_law_830 ?_
  refine lv_aload_n hx hb dL_law_831 rfl (lv_at hl 0 rfl) ?_
  refine lv_iload_n hx hb dL_law_832 rfl (lv_at hl 3 rfl) ?_
  refine lv_iconst (v := 4) hx hb dL_law_833 rfl ?_
  refine lv_iadd hx hb dL_law_834 ?_
  refine va_sld hx hb hX hbl hbA hS (lin hL hq 4 (by decide) rfl) dL_law_835 ?_
  refine L_callV (mj := gX11_charge) (As := [.int (xs (nI (7 * q) + 1).toNatClampNeg), .int (xs (nI (7 * q) + 2).toNatClampNeg), .int (xs (nI (7 * q) + 3).toNatClampNeg), .int (xs (nI (7 * q) + 4).toNatClampNeg)]) (rest := []) hx hb hml hown hts hK hP hS hl.1 ml_L_84 vX11_charge sl_0 sk_0 (by decide) rfl rfl (fun _ => rfl) (Nat.le_of_ble_eq_true rfl) (by decide) dL_law_836 (q_X11_charge h1) (fun _ => rfl) (fun H locs hP hS => ?_)
  refine lv_aload_n hx hb dL_law_839 rfl (lv_at hl 2 rfl) ?_
  refine lv_aload_n hx hb dL_law_840 rfl (lv_at hl 0 rfl) ?_
  refine lv_iload_n hx hb dL_law_841 rfl (lv_at hl 3 rfl) ?_
  refine lv_iconst (v := 1) hx hb dL_law_842 rfl ?_
  refine lv_iadd hx hb dL_law_843 ?_
  refine va_sld hx hb hX hbl hbA hS (lin hL hq 1 (by decide) rfl) dL_law_844 ?_
  refine lv_aload_n hx hb dL_law_845 rfl (lv_at hl 0 rfl) ?_
  refine lv_iload_n hx hb dL_law_846 rfl (lv_at hl 3 rfl) ?_
  refine lv_iconst (v := 2) hx hb dL_law_847 rfl ?_
  refine lv_iadd hx hb dL_law_848 ?_
  refine va_sld hx hb hX hbl hbA hS (lin hL hq 2 (by decide) rfl) dL_law_849 ?_
  refine lv_aload_n hx hb dL_law_850 rfl (lv_at hl 0 rfl) ?_
  refine lv_iload_n hx hb dL_law_851 rfl (lv_at hl 3 rfl) ?_
  refine lv_iconst (v := 3) hx hb dL_law_852 rfl ?_
  refine lv_iadd hx hb dL_law_853 ?_
  refine va_sld hx hb hX hbl hbA hS (lin hL hq 3 (by decide) rfl) dL_law_854 ?_
  refine lv_aload_n hx hb dL_law_855 rfl (lv_at hl 0 rfl) ?_
  refine lv_iload_n hx hb dL_law_856 rfl (lv_at hl 3 rfl) ?_
  refine lv_iconst (v := 4) hx hb dL_law_857 rfl ?_
  refine lv_iadd hx hb dL_law_858 ?_
  refine va_sld hx hb hX hbl hbA hS (lin hL hq 4 (by decide) rfl) dL_law_859 ?_
  refine L_callV (mj := gX12_charge) (As := [.int (xs (nI (7 * q) + 1).toNatClampNeg), .int (xs (nI (7 * q) + 2).toNatClampNeg), .int (xs (nI (7 * q) + 3).toNatClampNeg), .int (xs (nI (7 * q) + 4).toNatClampNeg)]) (rest := [.int v1.1]) hx hb hml hown hts hK hP hS hl.1 ml_L_87 vX12_charge sl_149 sk_149 (by decide) rfl rfl (fun _ => rfl) (Nat.le_of_ble_eq_true rfl) (by decide) dL_law_860 (q_X12_charge h2) (fun _ => rfl) (fun H locs hP hS => ?_)
  refine lv_icmp_eq (tgt := 1282) hx hb dL_law_863 (by decide) (fun _ => ?_) (fun hc => absurd heq hc)
  exact law_next l hL C0 hK hq hI2 ih H locs ls hP hS hl
set_option maxRecDepth 20000 in
theorem law_16 {p : Program} {e : Env} {s : State} {m : MethodId} {below : List Frame} {meth : Method} {c : Code} (l : Launch) {bs L : Nat} {xs : Nat → Int32} (hL : L ≤ 3584) (C0 : lw_At p s m meth c bs L xs) {D : va_G} {cA : Nat → ClassId} (hK : gKK D cA s) {Inv : gIt → gJt → Bool → Prop} (hE : EE_16 Inv) {q : Nat} (hq : 7 * q + 7 ≤ L) {I : gIt} {J : gJt} {w : Bool} (hI : Inv I J w) (ih : ∀ I J w, Inv I J w → ∀ (H : Heap) (locs : List Loc) (ls : Array Slot), va_P D gcl (gws s.heap.size cA gS0 I J (gR0 w)) H → va_S (fun q => s.heap.size ≤ q) s.heap H locs → lv_has ls 4 [(0, .ref bs), (1, .ref (s.heap.size + 0)), (2, .ref (s.heap.size + 149)), (3, .int (nI (7 * (q + 1))))] → W p l e room_1 s m #[Value.ref bs] below meth c H locs 194 9309 (lw_Z below #[Value.ref bs] s) (F0 m 18 ls [])) : ∀ (H : Heap) (locs : List Loc) (ls : Array Slot), va_P D gcl (gws s.heap.size cA gS0 I J (gR0 w)) H → va_S (fun q => s.heap.size ≤ q) s.heap H locs → lv_has ls 4 [(0, .ref bs), (1, .ref (s.heap.size + 0)), (2, .ref (s.heap.size + 149)), (3, .int (nI (7 * q)))] → W p l e room_1 s m #[Value.ref bs] below meth c H locs 194 9309 (lw_Z below #[Value.ref bs] s) (F0 m 868 ls []) := by
  obtain ⟨hx, hb, hr, hml, hown, hts, hX, hbl, hlocks, hgv⟩ := id C0
  have hbA : ¬ (fun q : Nat => s.heap.size ≤ q) bs := Nat.not_le.mpr hbl
  intro H locs ls hP hS hl
  obtain ⟨v1, h1, v2, h2, heq, hI2⟩ := hE I J w (xs (nI (7 * q) + 1).toNatClampNeg) hI
  refine lv_aload_n hx hb dL_law_868 rfl (lv_at hl 1 rfl) ?_
  refine lv_aload_n hx hb dL_law_869 rfl (lv_at hl 0 rfl) ?_
  refine lv_iload_n hx hb dL_law_870 rfl (lv_at hl 3 rfl) ?_
  refine lv_iconst (v := 1) hx hb dL_law_871 rfl ?_
  refine lv_iadd hx hb dL_law_872 ?_
  refine va_sld hx hb hX hbl hbA hS (lin hL hq 1 (by decide) rfl) dL_law_873 ?_
  refine L_callV (mj := gX11_act) (As := [.int (xs (nI (7 * q) + 1).toNatClampNeg)]) (rest := []) hx hb hml hown hts hK hP hS hl.1 ml_L_88 vX11_act sl_0 sk_0 (by decide) rfl rfl (fun _ => rfl) (Nat.le_of_ble_eq_true rfl) (by decide) dL_law_874 (q_X11_act h1) (fun _ => rfl) (fun H locs hP hS => ?_)
  refine lv_aload_n hx hb dL_law_877 rfl (lv_at hl 2 rfl) ?_
  refine lv_aload_n hx hb dL_law_878 rfl (lv_at hl 0 rfl) ?_
  refine lv_iload_n hx hb dL_law_879 rfl (lv_at hl 3 rfl) ?_
  refine lv_iconst (v := 1) hx hb dL_law_880 rfl ?_
  refine lv_iadd hx hb dL_law_881 ?_
  refine va_sld hx hb hX hbl hbA hS (lin hL hq 1 (by decide) rfl) dL_law_882 ?_
  refine L_callV (mj := gX12_act) (As := [.int (xs (nI (7 * q) + 1).toNatClampNeg)]) (rest := [.int v1.1]) hx hb hml hown hts hK hP hS hl.1 ml_L_91 vX12_act sl_149 sk_149 (by decide) rfl rfl (fun _ => rfl) (Nat.le_of_ble_eq_true rfl) (by decide) dL_law_883 (q_X12_act h2) (fun _ => rfl) (fun H locs hP hS => ?_)
  refine lv_icmp_eq (tgt := 1282) hx hb dL_law_886 (by decide) (fun _ => ?_) (fun hc => absurd heq hc)
  exact law_next l hL C0 hK hq hI2 ih H locs ls hP hS hl
set_option maxRecDepth 20000 in
theorem law_17 {p : Program} {e : Env} {s : State} {m : MethodId} {below : List Frame} {meth : Method} {c : Code} (l : Launch) {bs L : Nat} {xs : Nat → Int32} (hL : L ≤ 3584) (C0 : lw_At p s m meth c bs L xs) {D : va_G} {cA : Nat → ClassId} (hK : gKK D cA s) {Inv : gIt → gJt → Bool → Prop} (hE : EE_17 Inv) {q : Nat} (hq : 7 * q + 7 ≤ L) {I : gIt} {J : gJt} {w : Bool} (hI : Inv I J w) (ih : ∀ I J w, Inv I J w → ∀ (H : Heap) (locs : List Loc) (ls : Array Slot), va_P D gcl (gws s.heap.size cA gS0 I J (gR0 w)) H → va_S (fun q => s.heap.size ≤ q) s.heap H locs → lv_has ls 4 [(0, .ref bs), (1, .ref (s.heap.size + 0)), (2, .ref (s.heap.size + 149)), (3, .int (nI (7 * (q + 1))))] → W p l e room_1 s m #[Value.ref bs] below meth c H locs 194 9309 (lw_Z below #[Value.ref bs] s) (F0 m 18 ls [])) : ∀ (H : Heap) (locs : List Loc) (ls : Array Slot), va_P D gcl (gws s.heap.size cA gS0 I J (gR0 w)) H → va_S (fun q => s.heap.size ≤ q) s.heap H locs → lv_has ls 4 [(0, .ref bs), (1, .ref (s.heap.size + 0)), (2, .ref (s.heap.size + 149)), (3, .int (nI (7 * q)))] → W p l e room_1 s m #[Value.ref bs] below meth c H locs 194 9309 (lw_Z below #[Value.ref bs] s) (F0 m 891 ls []) := by
  obtain ⟨hx, hb, hr, hml, hown, hts, hX, hbl, hlocks, hgv⟩ := id C0
  have hbA : ¬ (fun q : Nat => s.heap.size ≤ q) bs := Nat.not_le.mpr hbl
  intro H locs ls hP hS hl
  obtain ⟨v1, h1, v2, h2, heq, hI2⟩ := hE I J w (xs (nI (7 * q) + 1).toNatClampNeg) hI
  refine lv_aload_n hx hb dL_law_891 rfl (lv_at hl 1 rfl) ?_
  refine lv_aload_n hx hb dL_law_892 rfl (lv_at hl 0 rfl) ?_
  refine lv_iload_n hx hb dL_law_893 rfl (lv_at hl 3 rfl) ?_
  refine lv_iconst (v := 1) hx hb dL_law_894 rfl ?_
  refine lv_iadd hx hb dL_law_895 ?_
  refine va_sld hx hb hX hbl hbA hS (lin hL hq 1 (by decide) rfl) dL_law_896 ?_
  refine L_callV (mj := gX11_hard) (As := [.int (xs (nI (7 * q) + 1).toNatClampNeg)]) (rest := []) hx hb hml hown hts hK hP hS hl.1 ml_L_92 vX11_hard sl_0 sk_0 (by decide) rfl rfl (fun _ => rfl) (Nat.le_of_ble_eq_true rfl) (by decide) dL_law_897 (q_X11_hard h1) (fun _ => rfl) (fun H locs hP hS => ?_)
  refine lv_aload_n hx hb dL_law_900 rfl (lv_at hl 2 rfl) ?_
  refine lv_aload_n hx hb dL_law_901 rfl (lv_at hl 0 rfl) ?_
  refine lv_iload_n hx hb dL_law_902 rfl (lv_at hl 3 rfl) ?_
  refine lv_iconst (v := 1) hx hb dL_law_903 rfl ?_
  refine lv_iadd hx hb dL_law_904 ?_
  refine va_sld hx hb hX hbl hbA hS (lin hL hq 1 (by decide) rfl) dL_law_905 ?_
  refine L_callV (mj := gX12_hard) (As := [.int (xs (nI (7 * q) + 1).toNatClampNeg)]) (rest := [.int v1.1]) hx hb hml hown hts hK hP hS hl.1 ml_L_95 vX12_hard sl_149 sk_149 (by decide) rfl rfl (fun _ => rfl) (Nat.le_of_ble_eq_true rfl) (by decide) dL_law_906 (q_X12_hard h2) (fun _ => rfl) (fun H locs hP hS => ?_)
  refine lv_icmp_eq (tgt := 1282) hx hb dL_law_909 (by decide) (fun _ => ?_) (fun hc => absurd heq hc)
  exact law_next l hL C0 hK hq hI2 ih H locs ls hP hS hl
set_option maxRecDepth 20000 in
theorem law_18 {p : Program} {e : Env} {s : State} {m : MethodId} {below : List Frame} {meth : Method} {c : Code} (l : Launch) {bs L : Nat} {xs : Nat → Int32} (hL : L ≤ 3584) (C0 : lw_At p s m meth c bs L xs) {D : va_G} {cA : Nat → ClassId} (hK : gKK D cA s) {Inv : gIt → gJt → Bool → Prop} (hE : EE_18 Inv) {q : Nat} (hq : 7 * q + 7 ≤ L) {I : gIt} {J : gJt} {w : Bool} (hI : Inv I J w) (ih : ∀ I J w, Inv I J w → ∀ (H : Heap) (locs : List Loc) (ls : Array Slot), va_P D gcl (gws s.heap.size cA gS0 I J (gR0 w)) H → va_S (fun q => s.heap.size ≤ q) s.heap H locs → lv_has ls 4 [(0, .ref bs), (1, .ref (s.heap.size + 0)), (2, .ref (s.heap.size + 149)), (3, .int (nI (7 * (q + 1))))] → W p l e room_1 s m #[Value.ref bs] below meth c H locs 194 9309 (lw_Z below #[Value.ref bs] s) (F0 m 18 ls [])) : ∀ (H : Heap) (locs : List Loc) (ls : Array Slot), va_P D gcl (gws s.heap.size cA gS0 I J (gR0 w)) H → va_S (fun q => s.heap.size ≤ q) s.heap H locs → lv_has ls 4 [(0, .ref bs), (1, .ref (s.heap.size + 0)), (2, .ref (s.heap.size + 149)), (3, .int (nI (7 * q)))] → W p l e room_1 s m #[Value.ref bs] below meth c H locs 194 9309 (lw_Z below #[Value.ref bs] s) (F0 m 914 ls []) := by
  obtain ⟨hx, hb, hr, hml, hown, hts, hX, hbl, hlocks, hgv⟩ := id C0
  have hbA : ¬ (fun q : Nat => s.heap.size ≤ q) bs := Nat.not_le.mpr hbl
  intro H locs ls hP hS hl
  obtain ⟨v1, h1, v2, h2, heq, hI2⟩ := hE I J w (xs (nI (7 * q) + 1).toNatClampNeg) hI
  refine lv_aload_n hx hb dL_law_914 rfl (lv_at hl 1 rfl) ?_
  refine lv_aload_n hx hb dL_law_915 rfl (lv_at hl 0 rfl) ?_
  refine lv_iload_n hx hb dL_law_916 rfl (lv_at hl 3 rfl) ?_
  refine lv_iconst (v := 1) hx hb dL_law_917 rfl ?_
  refine lv_iadd hx hb dL_law_918 ?_
  refine va_sld hx hb hX hbl hbA hS (lin hL hq 1 (by decide) rfl) dL_law_919 ?_
  refine L_callV (mj := gX11_undo) (As := [.int (xs (nI (7 * q) + 1).toNatClampNeg)]) (rest := []) hx hb hml hown hts hK hP hS hl.1 ml_L_96 vX11_undo sl_0 sk_0 (by decide) rfl rfl (fun _ => rfl) (Nat.le_of_ble_eq_true rfl) (by decide) dL_law_920 (q_X11_undo h1) (fun _ => rfl) (fun H locs hP hS => ?_)
  refine lv_aload_n hx hb dL_law_923 rfl (lv_at hl 2 rfl) ?_
  refine lv_aload_n hx hb dL_law_924 rfl (lv_at hl 0 rfl) ?_
  refine lv_iload_n hx hb dL_law_925 rfl (lv_at hl 3 rfl) ?_
  refine lv_iconst (v := 1) hx hb dL_law_926 rfl ?_
  refine lv_iadd hx hb dL_law_927 ?_
  refine va_sld hx hb hX hbl hbA hS (lin hL hq 1 (by decide) rfl) dL_law_928 ?_
  refine L_callV (mj := gX12_undo) (As := [.int (xs (nI (7 * q) + 1).toNatClampNeg)]) (rest := [.long v1.1]) hx hb hml hown hts hK hP hS hl.1 ml_L_100 vX12_undo sl_149 sk_149 (by decide) rfl rfl (fun _ => rfl) (Nat.le_of_ble_eq_true rfl) (by decide) dL_law_929 (q_X12_undo h2) (fun _ => rfl) (fun H locs hP hS => ?_)
  refine W.lcmp hx hb dL_law_932 ?_
  refine lv_if_eq (tgt := 1282) hx hb dL_law_933 (by decide) (fun _ => ?_) (fun hc => absurd (by rw [heq]; simp [lg_cmp]) hc)
  exact law_next l hL C0 hK hq hI2 ih H locs ls hP hS hl
set_option maxRecDepth 20000 in
theorem law_19 {p : Program} {e : Env} {s : State} {m : MethodId} {below : List Frame} {meth : Method} {c : Code} (l : Launch) {bs L : Nat} {xs : Nat → Int32} (hL : L ≤ 3584) (C0 : lw_At p s m meth c bs L xs) {D : va_G} {cA : Nat → ClassId} (hK : gKK D cA s) {Inv : gIt → gJt → Bool → Prop} (hE : EE_19 Inv) {q : Nat} (hq : 7 * q + 7 ≤ L) {I : gIt} {J : gJt} {w : Bool} (hI : Inv I J w) (ih : ∀ I J w, Inv I J w → ∀ (H : Heap) (locs : List Loc) (ls : Array Slot), va_P D gcl (gws s.heap.size cA gS0 I J (gR0 w)) H → va_S (fun q => s.heap.size ≤ q) s.heap H locs → lv_has ls 4 [(0, .ref bs), (1, .ref (s.heap.size + 0)), (2, .ref (s.heap.size + 149)), (3, .int (nI (7 * (q + 1))))] → W p l e room_1 s m #[Value.ref bs] below meth c H locs 194 9309 (lw_Z below #[Value.ref bs] s) (F0 m 18 ls [])) : ∀ (H : Heap) (locs : List Loc) (ls : Array Slot), va_P D gcl (gws s.heap.size cA gS0 I J (gR0 w)) H → va_S (fun q => s.heap.size ≤ q) s.heap H locs → lv_has ls 4 [(0, .ref bs), (1, .ref (s.heap.size + 0)), (2, .ref (s.heap.size + 149)), (3, .int (nI (7 * q)))] → W p l e room_1 s m #[Value.ref bs] below meth c H locs 194 9309 (lw_Z below #[Value.ref bs] s) (F0 m 938 ls []) := by
  obtain ⟨hx, hb, hr, hml, hown, hts, hX, hbl, hlocks, hgv⟩ := id C0
  have hbA : ¬ (fun q : Nat => s.heap.size ≤ q) bs := Nat.not_le.mpr hbl
  intro H locs ls hP hS hl
  by_cases hz : xs (nI (7 * q) + 4).toNatClampNeg = 0
  · obtain ⟨v1, h1, v2, h2, heq, hI2⟩ := hE I J w (xs (nI (7 * q) + 1).toNatClampNeg) (xs (nI (7 * q) + 2).toNatClampNeg) (xs (nI (7 * q) + 3).toNatClampNeg) (0 : Int32) hI (Or.inl rfl)
    refine lv_aload_n hx hb dL_law_938 rfl (lv_at hl 1 rfl) ?_
    refine lv_aload_n hx hb dL_law_939 rfl (lv_at hl 0 rfl) ?_
    refine lv_iload_n hx hb dL_law_940 rfl (lv_at hl 3 rfl) ?_
    refine lv_iconst (v := 1) hx hb dL_law_941 rfl ?_
    refine lv_iadd hx hb dL_law_942 ?_
    refine va_sld hx hb hX hbl hbA hS (lin hL hq 1 (by decide) rfl) dL_law_943 ?_
    refine lv_aload_n hx hb dL_law_944 rfl (lv_at hl 0 rfl) ?_
    refine lv_iload_n hx hb dL_law_945 rfl (lv_at hl 3 rfl) ?_
    refine lv_iconst (v := 2) hx hb dL_law_946 rfl ?_
    refine lv_iadd hx hb dL_law_947 ?_
    refine va_sld hx hb hX hbl hbA hS (lin hL hq 2 (by decide) rfl) dL_law_948 ?_
    refine lv_aload_n hx hb dL_law_949 rfl (lv_at hl 0 rfl) ?_
    refine lv_iload_n hx hb dL_law_950 rfl (lv_at hl 3 rfl) ?_
    refine lv_iconst (v := 3) hx hb dL_law_951 rfl ?_
    refine lv_iadd hx hb dL_law_952 ?_
    refine va_sld hx hb hX hbl hbA hS (lin hL hq 3 (by decide) rfl) dL_law_953 ?_
    refine lv_aload_n hx hb dL_law_954 rfl (lv_at hl 0 rfl) ?_
    refine lv_iload_n hx hb dL_law_955 rfl (lv_at hl 3 rfl) ?_
    refine lv_iconst (v := 4) hx hb dL_law_956 rfl ?_
    refine lv_iadd hx hb dL_law_957 ?_
    refine va_sld hx hb hX hbl hbA hS (lin hL hq 4 (by decide) rfl) dL_law_958 ?_
    refine lv_if_eq (tgt := 966) hx hb dL_law_959 (by decide) (fun _ => ?_) (fun hc => absurd hz hc)
    refine lv_iconst (v := 0) hx hb dL_law_966 rfl ?_
    refine L_callV (mj := gX11_least) (As := [.int (xs (nI (7 * q) + 1).toNatClampNeg), .int (xs (nI (7 * q) + 2).toNatClampNeg), .int (xs (nI (7 * q) + 3).toNatClampNeg), .int (0 : Int32)]) (rest := []) hx hb hml hown hts hK hP hS hl.1 ml_L_101 vX11_least sl_0 sk_0 (by decide) rfl rfl (fun _ => rfl) (Nat.le_of_ble_eq_true rfl) (by decide) dL_law_967 (q_X11_least h1) (fun _ => rfl) (fun H locs hP hS => ?_)
    refine lv_aload_n hx hb dL_law_970 rfl (lv_at hl 2 rfl) ?_
    refine lv_aload_n hx hb dL_law_971 rfl (lv_at hl 0 rfl) ?_
    refine lv_iload_n hx hb dL_law_972 rfl (lv_at hl 3 rfl) ?_
    refine lv_iconst (v := 1) hx hb dL_law_973 rfl ?_
    refine lv_iadd hx hb dL_law_974 ?_
    refine va_sld hx hb hX hbl hbA hS (lin hL hq 1 (by decide) rfl) dL_law_975 ?_
    refine lv_aload_n hx hb dL_law_976 rfl (lv_at hl 0 rfl) ?_
    refine lv_iload_n hx hb dL_law_977 rfl (lv_at hl 3 rfl) ?_
    refine lv_iconst (v := 2) hx hb dL_law_978 rfl ?_
    refine lv_iadd hx hb dL_law_979 ?_
    refine va_sld hx hb hX hbl hbA hS (lin hL hq 2 (by decide) rfl) dL_law_980 ?_
    refine lv_aload_n hx hb dL_law_981 rfl (lv_at hl 0 rfl) ?_
    refine lv_iload_n hx hb dL_law_982 rfl (lv_at hl 3 rfl) ?_
    refine lv_iconst (v := 3) hx hb dL_law_983 rfl ?_
    refine lv_iadd hx hb dL_law_984 ?_
    refine va_sld hx hb hX hbl hbA hS (lin hL hq 3 (by decide) rfl) dL_law_985 ?_
    refine lv_aload_n hx hb dL_law_986 rfl (lv_at hl 0 rfl) ?_
    refine lv_iload_n hx hb dL_law_987 rfl (lv_at hl 3 rfl) ?_
    refine lv_iconst (v := 4) hx hb dL_law_988 rfl ?_
    refine lv_iadd hx hb dL_law_989 ?_
    refine va_sld hx hb hX hbl hbA hS (lin hL hq 4 (by decide) rfl) dL_law_990 ?_
    refine lv_if_eq (tgt := 998) hx hb dL_law_991 (by decide) (fun _ => ?_) (fun hc => absurd hz hc)
    refine lv_iconst (v := 0) hx hb dL_law_998 rfl ?_
    refine L_callV (mj := gX12_least) (As := [.int (xs (nI (7 * q) + 1).toNatClampNeg), .int (xs (nI (7 * q) + 2).toNatClampNeg), .int (xs (nI (7 * q) + 3).toNatClampNeg), .int (0 : Int32)]) (rest := [.int v1.1]) hx hb hml hown hts hK hP hS hl.1 ml_L_105 vX12_least sl_149 sk_149 (by decide) rfl rfl (fun _ => rfl) (Nat.le_of_ble_eq_true rfl) (by decide) dL_law_999 (q_X12_least h2) (fun _ => rfl) (fun H locs hP hS => ?_)
    refine lv_icmp_eq (tgt := 1282) hx hb dL_law_1002 (by decide) (fun _ => ?_) (fun hc => absurd heq hc)
    exact law_next l hL C0 hK hq hI2 ih H locs ls hP hS hl
  · obtain ⟨v1, h1, v2, h2, heq, hI2⟩ := hE I J w (xs (nI (7 * q) + 1).toNatClampNeg) (xs (nI (7 * q) + 2).toNatClampNeg) (xs (nI (7 * q) + 3).toNatClampNeg) (1 : Int32) hI (Or.inr rfl)
    refine lv_aload_n hx hb dL_law_938 rfl (lv_at hl 1 rfl) ?_
    refine lv_aload_n hx hb dL_law_939 rfl (lv_at hl 0 rfl) ?_
    refine lv_iload_n hx hb dL_law_940 rfl (lv_at hl 3 rfl) ?_
    refine lv_iconst (v := 1) hx hb dL_law_941 rfl ?_
    refine lv_iadd hx hb dL_law_942 ?_
    refine va_sld hx hb hX hbl hbA hS (lin hL hq 1 (by decide) rfl) dL_law_943 ?_
    refine lv_aload_n hx hb dL_law_944 rfl (lv_at hl 0 rfl) ?_
    refine lv_iload_n hx hb dL_law_945 rfl (lv_at hl 3 rfl) ?_
    refine lv_iconst (v := 2) hx hb dL_law_946 rfl ?_
    refine lv_iadd hx hb dL_law_947 ?_
    refine va_sld hx hb hX hbl hbA hS (lin hL hq 2 (by decide) rfl) dL_law_948 ?_
    refine lv_aload_n hx hb dL_law_949 rfl (lv_at hl 0 rfl) ?_
    refine lv_iload_n hx hb dL_law_950 rfl (lv_at hl 3 rfl) ?_
    refine lv_iconst (v := 3) hx hb dL_law_951 rfl ?_
    refine lv_iadd hx hb dL_law_952 ?_
    refine va_sld hx hb hX hbl hbA hS (lin hL hq 3 (by decide) rfl) dL_law_953 ?_
    refine lv_aload_n hx hb dL_law_954 rfl (lv_at hl 0 rfl) ?_
    refine lv_iload_n hx hb dL_law_955 rfl (lv_at hl 3 rfl) ?_
    refine lv_iconst (v := 4) hx hb dL_law_956 rfl ?_
    refine lv_iadd hx hb dL_law_957 ?_
    refine va_sld hx hb hX hbl hbA hS (lin hL hq 4 (by decide) rfl) dL_law_958 ?_
    refine lv_if_eq (tgt := 966) hx hb dL_law_959 (by decide) (fun hc => absurd hc hz) (fun _ => ?_)
    refine lv_iconst (v := 1) hx hb dL_law_962 rfl ?_
    refine lv_goto (tgt := 967) hx hb dL_law_963 (by decide) ?_
    refine L_callV (mj := gX11_least) (As := [.int (xs (nI (7 * q) + 1).toNatClampNeg), .int (xs (nI (7 * q) + 2).toNatClampNeg), .int (xs (nI (7 * q) + 3).toNatClampNeg), .int (1 : Int32)]) (rest := []) hx hb hml hown hts hK hP hS hl.1 ml_L_101 vX11_least sl_0 sk_0 (by decide) rfl rfl (fun _ => rfl) (Nat.le_of_ble_eq_true rfl) (by decide) dL_law_967 (q_X11_least h1) (fun _ => rfl) (fun H locs hP hS => ?_)
    refine lv_aload_n hx hb dL_law_970 rfl (lv_at hl 2 rfl) ?_
    refine lv_aload_n hx hb dL_law_971 rfl (lv_at hl 0 rfl) ?_
    refine lv_iload_n hx hb dL_law_972 rfl (lv_at hl 3 rfl) ?_
    refine lv_iconst (v := 1) hx hb dL_law_973 rfl ?_
    refine lv_iadd hx hb dL_law_974 ?_
    refine va_sld hx hb hX hbl hbA hS (lin hL hq 1 (by decide) rfl) dL_law_975 ?_
    refine lv_aload_n hx hb dL_law_976 rfl (lv_at hl 0 rfl) ?_
    refine lv_iload_n hx hb dL_law_977 rfl (lv_at hl 3 rfl) ?_
    refine lv_iconst (v := 2) hx hb dL_law_978 rfl ?_
    refine lv_iadd hx hb dL_law_979 ?_
    refine va_sld hx hb hX hbl hbA hS (lin hL hq 2 (by decide) rfl) dL_law_980 ?_
    refine lv_aload_n hx hb dL_law_981 rfl (lv_at hl 0 rfl) ?_
    refine lv_iload_n hx hb dL_law_982 rfl (lv_at hl 3 rfl) ?_
    refine lv_iconst (v := 3) hx hb dL_law_983 rfl ?_
    refine lv_iadd hx hb dL_law_984 ?_
    refine va_sld hx hb hX hbl hbA hS (lin hL hq 3 (by decide) rfl) dL_law_985 ?_
    refine lv_aload_n hx hb dL_law_986 rfl (lv_at hl 0 rfl) ?_
    refine lv_iload_n hx hb dL_law_987 rfl (lv_at hl 3 rfl) ?_
    refine lv_iconst (v := 4) hx hb dL_law_988 rfl ?_
    refine lv_iadd hx hb dL_law_989 ?_
    refine va_sld hx hb hX hbl hbA hS (lin hL hq 4 (by decide) rfl) dL_law_990 ?_
    refine lv_if_eq (tgt := 998) hx hb dL_law_991 (by decide) (fun hc => absurd hc hz) (fun _ => ?_)
    refine lv_iconst (v := 1) hx hb dL_law_994 rfl ?_
    refine lv_goto (tgt := 999) hx hb dL_law_995 (by decide) ?_
    refine L_callV (mj := gX12_least) (As := [.int (xs (nI (7 * q) + 1).toNatClampNeg), .int (xs (nI (7 * q) + 2).toNatClampNeg), .int (xs (nI (7 * q) + 3).toNatClampNeg), .int (1 : Int32)]) (rest := [.int v1.1]) hx hb hml hown hts hK hP hS hl.1 ml_L_105 vX12_least sl_149 sk_149 (by decide) rfl rfl (fun _ => rfl) (Nat.le_of_ble_eq_true rfl) (by decide) dL_law_999 (q_X12_least h2) (fun _ => rfl) (fun H locs hP hS => ?_)
    refine lv_icmp_eq (tgt := 1282) hx hb dL_law_1002 (by decide) (fun _ => ?_) (fun hc => absurd heq hc)
    exact law_next l hL C0 hK hq hI2 ih H locs ls hP hS hl
set_option maxRecDepth 20000 in
theorem law_20 {p : Program} {e : Env} {s : State} {m : MethodId} {below : List Frame} {meth : Method} {c : Code} (l : Launch) {bs L : Nat} {xs : Nat → Int32} (hL : L ≤ 3584) (C0 : lw_At p s m meth c bs L xs) {D : va_G} {cA : Nat → ClassId} (hK : gKK D cA s) {Inv : gIt → gJt → Bool → Prop} (hE : EE_20 Inv) {q : Nat} (hq : 7 * q + 7 ≤ L) {I : gIt} {J : gJt} {w : Bool} (hI : Inv I J w) (ih : ∀ I J w, Inv I J w → ∀ (H : Heap) (locs : List Loc) (ls : Array Slot), va_P D gcl (gws s.heap.size cA gS0 I J (gR0 w)) H → va_S (fun q => s.heap.size ≤ q) s.heap H locs → lv_has ls 4 [(0, .ref bs), (1, .ref (s.heap.size + 0)), (2, .ref (s.heap.size + 149)), (3, .int (nI (7 * (q + 1))))] → W p l e room_1 s m #[Value.ref bs] below meth c H locs 194 9309 (lw_Z below #[Value.ref bs] s) (F0 m 18 ls [])) : ∀ (H : Heap) (locs : List Loc) (ls : Array Slot), va_P D gcl (gws s.heap.size cA gS0 I J (gR0 w)) H → va_S (fun q => s.heap.size ≤ q) s.heap H locs → lv_has ls 4 [(0, .ref bs), (1, .ref (s.heap.size + 0)), (2, .ref (s.heap.size + 149)), (3, .int (nI (7 * q)))] → W p l e room_1 s m #[Value.ref bs] below meth c H locs 194 9309 (lw_Z below #[Value.ref bs] s) (F0 m 1007 ls []) := by
  obtain ⟨hx, hb, hr, hml, hown, hts, hX, hbl, hlocks, hgv⟩ := id C0
  have hbA : ¬ (fun q : Nat => s.heap.size ≤ q) bs := Nat.not_le.mpr hbl
  intro H locs ls hP hS hl
  obtain ⟨v1, h1, v2, h2, heq, hI2⟩ := hE I J w (xs (nI (7 * q) + 1).toNatClampNeg) (xs (nI (7 * q) + 2).toNatClampNeg) (xs (nI (7 * q) + 3).toNatClampNeg) hI
  refine lv_aload_n hx hb dL_law_1007 rfl (lv_at hl 1 rfl) ?_
  refine lv_aload_n hx hb dL_law_1008 rfl (lv_at hl 0 rfl) ?_
  refine lv_iload_n hx hb dL_law_1009 rfl (lv_at hl 3 rfl) ?_
  refine lv_iconst (v := 1) hx hb dL_law_1010 rfl ?_
  refine lv_iadd hx hb dL_law_1011 ?_
  refine va_sld hx hb hX hbl hbA hS (lin hL hq 1 (by decide) rfl) dL_law_1012 ?_
  refine lv_aload_n hx hb dL_law_1013 rfl (lv_at hl 0 rfl) ?_
  refine lv_iload_n hx hb dL_law_1014 rfl (lv_at hl 3 rfl) ?_
  refine lv_iconst (v := 2) hx hb dL_law_1015 rfl ?_
  refine lv_iadd hx hb dL_law_1016 ?_
  refine va_sld hx hb hX hbl hbA hS (lin hL hq 2 (by decide) rfl) dL_law_1017 ?_
  refine lv_aload_n hx hb dL_law_1018 rfl (lv_at hl 0 rfl) ?_
  refine lv_iload_n hx hb dL_law_1019 rfl (lv_at hl 3 rfl) ?_
  refine lv_iconst (v := 3) hx hb dL_law_1020 rfl ?_
  refine lv_iadd hx hb dL_law_1021 ?_
  refine va_sld hx hb hX hbl hbA hS (lin hL hq 3 (by decide) rfl) dL_law_1022 ?_
  refine L_callV (mj := gX11_cover) (As := [.int (xs (nI (7 * q) + 1).toNatClampNeg), .int (xs (nI (7 * q) + 2).toNatClampNeg), .int (xs (nI (7 * q) + 3).toNatClampNeg)]) (rest := []) hx hb hml hown hts hK hP hS hl.1 ml_L_106 vX11_cover sl_0 sk_0 (by decide) rfl rfl (fun _ => rfl) (Nat.le_of_ble_eq_true rfl) (by decide) dL_law_1023 (q_X11_cover h1) (fun _ => rfl) (fun H locs hP hS => ?_)
  refine lv_aload_n hx hb dL_law_1026 rfl (lv_at hl 2 rfl) ?_
  refine lv_aload_n hx hb dL_law_1027 rfl (lv_at hl 0 rfl) ?_
  refine lv_iload_n hx hb dL_law_1028 rfl (lv_at hl 3 rfl) ?_
  refine lv_iconst (v := 1) hx hb dL_law_1029 rfl ?_
  refine lv_iadd hx hb dL_law_1030 ?_
  refine va_sld hx hb hX hbl hbA hS (lin hL hq 1 (by decide) rfl) dL_law_1031 ?_
  refine lv_aload_n hx hb dL_law_1032 rfl (lv_at hl 0 rfl) ?_
  refine lv_iload_n hx hb dL_law_1033 rfl (lv_at hl 3 rfl) ?_
  refine lv_iconst (v := 2) hx hb dL_law_1034 rfl ?_
  refine lv_iadd hx hb dL_law_1035 ?_
  refine va_sld hx hb hX hbl hbA hS (lin hL hq 2 (by decide) rfl) dL_law_1036 ?_
  refine lv_aload_n hx hb dL_law_1037 rfl (lv_at hl 0 rfl) ?_
  refine lv_iload_n hx hb dL_law_1038 rfl (lv_at hl 3 rfl) ?_
  refine lv_iconst (v := 3) hx hb dL_law_1039 rfl ?_
  refine lv_iadd hx hb dL_law_1040 ?_
  refine va_sld hx hb hX hbl hbA hS (lin hL hq 3 (by decide) rfl) dL_law_1041 ?_
  refine L_callV (mj := gX12_cover) (As := [.int (xs (nI (7 * q) + 1).toNatClampNeg), .int (xs (nI (7 * q) + 2).toNatClampNeg), .int (xs (nI (7 * q) + 3).toNatClampNeg)]) (rest := [.long v1]) hx hb hml hown hts hK hP hS hl.1 ml_L_110 vX12_cover sl_149 sk_149 (by decide) rfl rfl (fun _ => rfl) (Nat.le_of_ble_eq_true rfl) (by decide) dL_law_1042 (q_X12_cover h2) (fun _ => rfl) (fun H locs hP hS => ?_)
  refine W.lcmp hx hb dL_law_1045 ?_
  refine lv_if_eq (tgt := 1282) hx hb dL_law_1046 (by decide) (fun _ => ?_) (fun hc => absurd (by rw [heq]; simp [lg_cmp]) hc)
  exact law_next l hL C0 hK hq hI2 ih H locs ls hP hS hl
set_option maxRecDepth 20000 in
theorem law_21 {p : Program} {e : Env} {s : State} {m : MethodId} {below : List Frame} {meth : Method} {c : Code} (l : Launch) {bs L : Nat} {xs : Nat → Int32} (hL : L ≤ 3584) (C0 : lw_At p s m meth c bs L xs) {D : va_G} {cA : Nat → ClassId} (hK : gKK D cA s) {Inv : gIt → gJt → Bool → Prop} (hE : EE_21 Inv) {q : Nat} (hq : 7 * q + 7 ≤ L) {I : gIt} {J : gJt} {w : Bool} (hI : Inv I J w) (ih : ∀ I J w, Inv I J w → ∀ (H : Heap) (locs : List Loc) (ls : Array Slot), va_P D gcl (gws s.heap.size cA gS0 I J (gR0 w)) H → va_S (fun q => s.heap.size ≤ q) s.heap H locs → lv_has ls 4 [(0, .ref bs), (1, .ref (s.heap.size + 0)), (2, .ref (s.heap.size + 149)), (3, .int (nI (7 * (q + 1))))] → W p l e room_1 s m #[Value.ref bs] below meth c H locs 194 9309 (lw_Z below #[Value.ref bs] s) (F0 m 18 ls [])) : ∀ (H : Heap) (locs : List Loc) (ls : Array Slot), va_P D gcl (gws s.heap.size cA gS0 I J (gR0 w)) H → va_S (fun q => s.heap.size ≤ q) s.heap H locs → lv_has ls 4 [(0, .ref bs), (1, .ref (s.heap.size + 0)), (2, .ref (s.heap.size + 149)), (3, .int (nI (7 * q)))] → W p l e room_1 s m #[Value.ref bs] below meth c H locs 194 9309 (lw_Z below #[Value.ref bs] s) (F0 m 1051 ls []) := by
  obtain ⟨hx, hb, hr, hml, hown, hts, hX, hbl, hlocks, hgv⟩ := id C0
  have hbA : ¬ (fun q : Nat => s.heap.size ≤ q) bs := Nat.not_le.mpr hbl
  intro H locs ls hP hS hl
  obtain ⟨v1, h1, v2, h2, heq, hI2⟩ := hE I J w (xs (nI (7 * q) + 1).toNatClampNeg) (xs (nI (7 * q) + 2).toNatClampNeg) (xs (nI (7 * q) + 3).toNatClampNeg) hI
  refine lv_aload_n hx hb dL_law_1051 rfl (lv_at hl 1 rfl) ?_
  refine lv_aload_n hx hb dL_law_1052 rfl (lv_at hl 0 rfl) ?_
  refine lv_iload_n hx hb dL_law_1053 rfl (lv_at hl 3 rfl) ?_
  refine lv_iconst (v := 1) hx hb dL_law_1054 rfl ?_
  refine lv_iadd hx hb dL_law_1055 ?_
  refine va_sld hx hb hX hbl hbA hS (lin hL hq 1 (by decide) rfl) dL_law_1056 ?_
  refine lv_aload_n hx hb dL_law_1057 rfl (lv_at hl 0 rfl) ?_
  refine lv_iload_n hx hb dL_law_1058 rfl (lv_at hl 3 rfl) ?_
  refine lv_iconst (v := 2) hx hb dL_law_1059 rfl ?_
  refine lv_iadd hx hb dL_law_1060 ?_
  refine va_sld hx hb hX hbl hbA hS (lin hL hq 2 (by decide) rfl) dL_law_1061 ?_
  refine lv_aload_n hx hb dL_law_1062 rfl (lv_at hl 0 rfl) ?_
  refine lv_iload_n hx hb dL_law_1063 rfl (lv_at hl 3 rfl) ?_
  refine lv_iconst (v := 3) hx hb dL_law_1064 rfl ?_
  refine lv_iadd hx hb dL_law_1065 ?_
  refine va_sld hx hb hX hbl hbA hS (lin hL hq 3 (by decide) rfl) dL_law_1066 ?_
  refine L_callV (mj := gX11_gain) (As := [.int (xs (nI (7 * q) + 1).toNatClampNeg), .int (xs (nI (7 * q) + 2).toNatClampNeg), .int (xs (nI (7 * q) + 3).toNatClampNeg)]) (rest := []) hx hb hml hown hts hK hP hS hl.1 ml_L_111 vX11_gain sl_0 sk_0 (by decide) rfl rfl (fun _ => rfl) (Nat.le_of_ble_eq_true rfl) (by decide) dL_law_1067 (q_X11_gain h1) (fun _ => rfl) (fun H locs hP hS => ?_)
  refine lv_aload_n hx hb dL_law_1070 rfl (lv_at hl 2 rfl) ?_
  refine lv_aload_n hx hb dL_law_1071 rfl (lv_at hl 0 rfl) ?_
  refine lv_iload_n hx hb dL_law_1072 rfl (lv_at hl 3 rfl) ?_
  refine lv_iconst (v := 1) hx hb dL_law_1073 rfl ?_
  refine lv_iadd hx hb dL_law_1074 ?_
  refine va_sld hx hb hX hbl hbA hS (lin hL hq 1 (by decide) rfl) dL_law_1075 ?_
  refine lv_aload_n hx hb dL_law_1076 rfl (lv_at hl 0 rfl) ?_
  refine lv_iload_n hx hb dL_law_1077 rfl (lv_at hl 3 rfl) ?_
  refine lv_iconst (v := 2) hx hb dL_law_1078 rfl ?_
  refine lv_iadd hx hb dL_law_1079 ?_
  refine va_sld hx hb hX hbl hbA hS (lin hL hq 2 (by decide) rfl) dL_law_1080 ?_
  refine lv_aload_n hx hb dL_law_1081 rfl (lv_at hl 0 rfl) ?_
  refine lv_iload_n hx hb dL_law_1082 rfl (lv_at hl 3 rfl) ?_
  refine lv_iconst (v := 3) hx hb dL_law_1083 rfl ?_
  refine lv_iadd hx hb dL_law_1084 ?_
  refine va_sld hx hb hX hbl hbA hS (lin hL hq 3 (by decide) rfl) dL_law_1085 ?_
  refine L_callV (mj := gX12_gain) (As := [.int (xs (nI (7 * q) + 1).toNatClampNeg), .int (xs (nI (7 * q) + 2).toNatClampNeg), .int (xs (nI (7 * q) + 3).toNatClampNeg)]) (rest := [.int v1.1]) hx hb hml hown hts hK hP hS hl.1 ml_L_114 vX12_gain sl_149 sk_149 (by decide) rfl rfl (fun _ => rfl) (Nat.le_of_ble_eq_true rfl) (by decide) dL_law_1086 (q_X12_gain h2) (fun _ => rfl) (fun H locs hP hS => ?_)
  refine lv_icmp_eq (tgt := 1282) hx hb dL_law_1089 (by decide) (fun _ => ?_) (fun hc => absurd heq hc)
  exact law_next l hL C0 hK hq hI2 ih H locs ls hP hS hl
set_option maxRecDepth 20000 in
theorem law_22 {p : Program} {e : Env} {s : State} {m : MethodId} {below : List Frame} {meth : Method} {c : Code} (l : Launch) {bs L : Nat} {xs : Nat → Int32} (hL : L ≤ 3584) (C0 : lw_At p s m meth c bs L xs) {D : va_G} {cA : Nat → ClassId} (hK : gKK D cA s) {Inv : gIt → gJt → Bool → Prop} (hE : EE_22 Inv) {q : Nat} (hq : 7 * q + 7 ≤ L) {I : gIt} {J : gJt} {w : Bool} (hI : Inv I J w) (ih : ∀ I J w, Inv I J w → ∀ (H : Heap) (locs : List Loc) (ls : Array Slot), va_P D gcl (gws s.heap.size cA gS0 I J (gR0 w)) H → va_S (fun q => s.heap.size ≤ q) s.heap H locs → lv_has ls 4 [(0, .ref bs), (1, .ref (s.heap.size + 0)), (2, .ref (s.heap.size + 149)), (3, .int (nI (7 * (q + 1))))] → W p l e room_1 s m #[Value.ref bs] below meth c H locs 194 9309 (lw_Z below #[Value.ref bs] s) (F0 m 18 ls [])) : ∀ (H : Heap) (locs : List Loc) (ls : Array Slot), va_P D gcl (gws s.heap.size cA gS0 I J (gR0 w)) H → va_S (fun q => s.heap.size ≤ q) s.heap H locs → lv_has ls 4 [(0, .ref bs), (1, .ref (s.heap.size + 0)), (2, .ref (s.heap.size + 149)), (3, .int (nI (7 * q)))] → W p l e room_1 s m #[Value.ref bs] below meth c H locs 194 9309 (lw_Z below #[Value.ref bs] s) (F0 m 1094 ls []) := by
  obtain ⟨hx, hb, hr, hml, hown, hts, hX, hbl, hlocks, hgv⟩ := id C0
  have hbA : ¬ (fun q : Nat => s.heap.size ≤ q) bs := Nat.not_le.mpr hbl
  intro H locs ls hP hS hl
  obtain ⟨v1, h1, v2, h2, heq, hI2⟩ := hE I J w (xs (nI (7 * q) + 1).toNatClampNeg) (xs (nI (7 * q) + 2).toNatClampNeg) (xs (nI (7 * q) + 3).toNatClampNeg) (xs (nI (7 * q) + 4).toNatClampNeg) hI
  refine lv_aload_n hx hb dL_law_1094 rfl (lv_at hl 1 rfl) ?_
  refine lv_aload_n hx hb dL_law_1095 rfl (lv_at hl 0 rfl) ?_
  refine lv_iload_n hx hb dL_law_1096 rfl (lv_at hl 3 rfl) ?_
  refine lv_iconst (v := 1) hx hb dL_law_1097 rfl ?_
  refine lv_iadd hx hb dL_law_1098 ?_
  refine va_sld hx hb hX hbl hbA hS (lin hL hq 1 (by decide) rfl) dL_law_1099 ?_
  refine lv_aload_n hx hb dL_law_1100 rfl (lv_at hl 0 rfl) ?_
  refine lv_iload_n hx hb dL_law_1101 rfl (lv_at hl 3 rfl) ?_
  refine lv_iconst (v := 2) hx hb dL_law_1102 rfl ?_
  refine lv_iadd hx hb dL_law_1103 ?_
  refine va_sld hx hb hX hbl hbA hS (lin hL hq 2 (by decide) rfl) dL_law_1104 ?_
  refine lv_aload_n hx hb dL_law_1105 rfl (lv_at hl 0 rfl) ?_
  refine lv_iload_n hx hb dL_law_1106 rfl (lv_at hl 3 rfl) ?_
  refine lv_iconst (v := 3) hx hb dL_law_1107 rfl ?_
  refine lv_iadd hx hb dL_law_1108 ?_
  refine va_sld hx hb hX hbl hbA hS (lin hL hq 3 (by decide) rfl) dL_law_1109 ?_
  refine lv_aload_n hx hb dL_law_1110 rfl (lv_at hl 0 rfl) ?_
  refine lv_iload_n hx hb dL_law_1111 rfl (lv_at hl 3 rfl) ?_
  refine lv_iconst (v := 4) hx hb dL_law_1112 rfl ?_
  refine lv_iadd hx hb dL_law_1113 ?_
  refine va_sld hx hb hX hbl hbA hS (lin hL hq 4 (by decide) rfl) dL_law_1114 ?_
  refine L_callV (mj := gX11_paid) (As := [.int (xs (nI (7 * q) + 1).toNatClampNeg), .int (xs (nI (7 * q) + 2).toNatClampNeg), .int (xs (nI (7 * q) + 3).toNatClampNeg), .int (xs (nI (7 * q) + 4).toNatClampNeg)]) (rest := []) hx hb hml hown hts hK hP hS hl.1 ml_L_115 vX11_paid sl_0 sk_0 (by decide) rfl rfl (fun _ => rfl) (Nat.le_of_ble_eq_true rfl) (by decide) dL_law_1115 (q_X11_paid h1) (fun _ => rfl) (fun H locs hP hS => ?_)
  refine lv_aload_n hx hb dL_law_1118 rfl (lv_at hl 2 rfl) ?_
  refine lv_aload_n hx hb dL_law_1119 rfl (lv_at hl 0 rfl) ?_
  refine lv_iload_n hx hb dL_law_1120 rfl (lv_at hl 3 rfl) ?_
  refine lv_iconst (v := 1) hx hb dL_law_1121 rfl ?_
  refine lv_iadd hx hb dL_law_1122 ?_
  refine va_sld hx hb hX hbl hbA hS (lin hL hq 1 (by decide) rfl) dL_law_1123 ?_
  refine lv_aload_n hx hb dL_law_1124 rfl (lv_at hl 0 rfl) ?_
  refine lv_iload_n hx hb dL_law_1125 rfl (lv_at hl 3 rfl) ?_
  refine lv_iconst (v := 2) hx hb dL_law_1126 rfl ?_
  refine lv_iadd hx hb dL_law_1127 ?_
  refine va_sld hx hb hX hbl hbA hS (lin hL hq 2 (by decide) rfl) dL_law_1128 ?_
  refine lv_aload_n hx hb dL_law_1129 rfl (lv_at hl 0 rfl) ?_
  refine lv_iload_n hx hb dL_law_1130 rfl (lv_at hl 3 rfl) ?_
  refine lv_iconst (v := 3) hx hb dL_law_1131 rfl ?_
  refine lv_iadd hx hb dL_law_1132 ?_
  refine va_sld hx hb hX hbl hbA hS (lin hL hq 3 (by decide) rfl) dL_law_1133 ?_
  refine lv_aload_n hx hb dL_law_1134 rfl (lv_at hl 0 rfl) ?_
  refine lv_iload_n hx hb dL_law_1135 rfl (lv_at hl 3 rfl) ?_
  refine lv_iconst (v := 4) hx hb dL_law_1136 rfl ?_
  refine lv_iadd hx hb dL_law_1137 ?_
  refine va_sld hx hb hX hbl hbA hS (lin hL hq 4 (by decide) rfl) dL_law_1138 ?_
  refine L_callV (mj := gX12_paid) (As := [.int (xs (nI (7 * q) + 1).toNatClampNeg), .int (xs (nI (7 * q) + 2).toNatClampNeg), .int (xs (nI (7 * q) + 3).toNatClampNeg), .int (xs (nI (7 * q) + 4).toNatClampNeg)]) (rest := [.int v1.1]) hx hb hml hown hts hK hP hS hl.1 ml_L_118 vX12_paid sl_149 sk_149 (by decide) rfl rfl (fun _ => rfl) (Nat.le_of_ble_eq_true rfl) (by decide) dL_law_1139 (q_X12_paid h2) (fun _ => rfl) (fun H locs hP hS => ?_)
  refine lv_icmp_eq (tgt := 1282) hx hb dL_law_1142 (by decide) (fun _ => ?_) (fun hc => absurd heq hc)
  exact law_next l hL C0 hK hq hI2 ih H locs ls hP hS hl
set_option maxRecDepth 20000 in
theorem law_23 {p : Program} {e : Env} {s : State} {m : MethodId} {below : List Frame} {meth : Method} {c : Code} (l : Launch) {bs L : Nat} {xs : Nat → Int32} (hL : L ≤ 3584) (C0 : lw_At p s m meth c bs L xs) {D : va_G} {cA : Nat → ClassId} (hK : gKK D cA s) {Inv : gIt → gJt → Bool → Prop} (hE : EE_23 Inv) {q : Nat} (hq : 7 * q + 7 ≤ L) {I : gIt} {J : gJt} {w : Bool} (hI : Inv I J w) (ih : ∀ I J w, Inv I J w → ∀ (H : Heap) (locs : List Loc) (ls : Array Slot), va_P D gcl (gws s.heap.size cA gS0 I J (gR0 w)) H → va_S (fun q => s.heap.size ≤ q) s.heap H locs → lv_has ls 4 [(0, .ref bs), (1, .ref (s.heap.size + 0)), (2, .ref (s.heap.size + 149)), (3, .int (nI (7 * (q + 1))))] → W p l e room_1 s m #[Value.ref bs] below meth c H locs 194 9309 (lw_Z below #[Value.ref bs] s) (F0 m 18 ls [])) : ∀ (H : Heap) (locs : List Loc) (ls : Array Slot), va_P D gcl (gws s.heap.size cA gS0 I J (gR0 w)) H → va_S (fun q => s.heap.size ≤ q) s.heap H locs → lv_has ls 4 [(0, .ref bs), (1, .ref (s.heap.size + 0)), (2, .ref (s.heap.size + 149)), (3, .int (nI (7 * q)))] → W p l e room_1 s m #[Value.ref bs] below meth c H locs 194 9309 (lw_Z below #[Value.ref bs] s) (F0 m 1147 ls []) := by
  obtain ⟨hx, hb, hr, hml, hown, hts, hX, hbl, hlocks, hgv⟩ := id C0
  have hbA : ¬ (fun q : Nat => s.heap.size ≤ q) bs := Nat.not_le.mpr hbl
  intro H locs ls hP hS hl
  obtain ⟨v1, h1, v2, h2, heq, hI2⟩ := hE I J w (xs (nI (7 * q) + 1).toNatClampNeg) (xs (nI (7 * q) + 2).toNatClampNeg) hI
  refine lv_aload_n hx hb dL_law_1147 rfl (lv_at hl 1 rfl) ?_
  refine lv_aload_n hx hb dL_law_1148 rfl (lv_at hl 0 rfl) ?_
  refine lv_iload_n hx hb dL_law_1149 rfl (lv_at hl 3 rfl) ?_
  refine lv_iconst (v := 1) hx hb dL_law_1150 rfl ?_
  refine lv_iadd hx hb dL_law_1151 ?_
  refine va_sld hx hb hX hbl hbA hS (lin hL hq 1 (by decide) rfl) dL_law_1152 ?_
  refine lv_aload_n hx hb dL_law_1153 rfl (lv_at hl 0 rfl) ?_
  refine lv_iload_n hx hb dL_law_1154 rfl (lv_at hl 3 rfl) ?_
  refine lv_iconst (v := 2) hx hb dL_law_1155 rfl ?_
  refine lv_iadd hx hb dL_law_1156 ?_
  refine va_sld hx hb hX hbl hbA hS (lin hL hq 2 (by decide) rfl) dL_law_1157 ?_
  refine L_callV (mj := gX11_holds) (As := [.int (xs (nI (7 * q) + 1).toNatClampNeg), .int (xs (nI (7 * q) + 2).toNatClampNeg)]) (rest := []) hx hb hml hown hts hK hP hS hl.1 ml_L_119 vX11_holds sl_0 sk_0 (by decide) rfl rfl (fun _ => rfl) (Nat.le_of_ble_eq_true rfl) (by decide) dL_law_1158 (q_X11_holds h1) (fun _ => rfl) (fun H locs hP hS => ?_)
  refine lv_aload_n hx hb dL_law_1161 rfl (lv_at hl 2 rfl) ?_
  refine lv_aload_n hx hb dL_law_1162 rfl (lv_at hl 0 rfl) ?_
  refine lv_iload_n hx hb dL_law_1163 rfl (lv_at hl 3 rfl) ?_
  refine lv_iconst (v := 1) hx hb dL_law_1164 rfl ?_
  refine lv_iadd hx hb dL_law_1165 ?_
  refine va_sld hx hb hX hbl hbA hS (lin hL hq 1 (by decide) rfl) dL_law_1166 ?_
  refine lv_aload_n hx hb dL_law_1167 rfl (lv_at hl 0 rfl) ?_
  refine lv_iload_n hx hb dL_law_1168 rfl (lv_at hl 3 rfl) ?_
  refine lv_iconst (v := 2) hx hb dL_law_1169 rfl ?_
  refine lv_iadd hx hb dL_law_1170 ?_
  refine va_sld hx hb hX hbl hbA hS (lin hL hq 2 (by decide) rfl) dL_law_1171 ?_
  refine L_callV (mj := gX12_holds) (As := [.int (xs (nI (7 * q) + 1).toNatClampNeg), .int (xs (nI (7 * q) + 2).toNatClampNeg)]) (rest := [.int v1.1]) hx hb hml hown hts hK hP hS hl.1 ml_L_122 vX12_holds sl_149 sk_149 (by decide) rfl rfl (fun _ => rfl) (Nat.le_of_ble_eq_true rfl) (by decide) dL_law_1172 (q_X12_holds h2) (fun _ => rfl) (fun H locs hP hS => ?_)
  refine lv_icmp_eq (tgt := 1282) hx hb dL_law_1175 (by decide) (fun _ => ?_) (fun hc => absurd heq hc)
  exact law_next l hL C0 hK hq hI2 ih H locs ls hP hS hl
set_option maxRecDepth 20000 in
theorem law_24 {p : Program} {e : Env} {s : State} {m : MethodId} {below : List Frame} {meth : Method} {c : Code} (l : Launch) {bs L : Nat} {xs : Nat → Int32} (hL : L ≤ 3584) (C0 : lw_At p s m meth c bs L xs) {D : va_G} {cA : Nat → ClassId} (hK : gKK D cA s) {Inv : gIt → gJt → Bool → Prop} (hE : EE_24 Inv) {q : Nat} (hq : 7 * q + 7 ≤ L) {I : gIt} {J : gJt} {w : Bool} (hI : Inv I J w) (ih : ∀ I J w, Inv I J w → ∀ (H : Heap) (locs : List Loc) (ls : Array Slot), va_P D gcl (gws s.heap.size cA gS0 I J (gR0 w)) H → va_S (fun q => s.heap.size ≤ q) s.heap H locs → lv_has ls 4 [(0, .ref bs), (1, .ref (s.heap.size + 0)), (2, .ref (s.heap.size + 149)), (3, .int (nI (7 * (q + 1))))] → W p l e room_1 s m #[Value.ref bs] below meth c H locs 194 9309 (lw_Z below #[Value.ref bs] s) (F0 m 18 ls [])) : ∀ (H : Heap) (locs : List Loc) (ls : Array Slot), va_P D gcl (gws s.heap.size cA gS0 I J (gR0 w)) H → va_S (fun q => s.heap.size ≤ q) s.heap H locs → lv_has ls 4 [(0, .ref bs), (1, .ref (s.heap.size + 0)), (2, .ref (s.heap.size + 149)), (3, .int (nI (7 * q)))] → W p l e room_1 s m #[Value.ref bs] below meth c H locs 194 9309 (lw_Z below #[Value.ref bs] s) (F0 m 1180 ls []) := by
  obtain ⟨hx, hb, hr, hml, hown, hts, hX, hbl, hlocks, hgv⟩ := id C0
  have hbA : ¬ (fun q : Nat => s.heap.size ≤ q) bs := Nat.not_le.mpr hbl
  intro H locs ls hP hS hl
  obtain ⟨v1, h1, v2, h2, heq, hI2⟩ := hE I J w (xs (nI (7 * q) + 1).toNatClampNeg) (xs (nI (7 * q) + 2).toNatClampNeg) hI
  refine lv_aload_n hx hb dL_law_1180 rfl (lv_at hl 1 rfl) ?_
  refine lv_aload_n hx hb dL_law_1181 rfl (lv_at hl 0 rfl) ?_
  refine lv_iload_n hx hb dL_law_1182 rfl (lv_at hl 3 rfl) ?_
  refine lv_iconst (v := 1) hx hb dL_law_1183 rfl ?_
  refine lv_iadd hx hb dL_law_1184 ?_
  refine va_sld hx hb hX hbl hbA hS (lin hL hq 1 (by decide) rfl) dL_law_1185 ?_
  refine lv_aload_n hx hb dL_law_1186 rfl (lv_at hl 0 rfl) ?_
  refine lv_iload_n hx hb dL_law_1187 rfl (lv_at hl 3 rfl) ?_
  refine lv_iconst (v := 2) hx hb dL_law_1188 rfl ?_
  refine lv_iadd hx hb dL_law_1189 ?_
  refine va_sld hx hb hX hbl hbA hS (lin hL hq 2 (by decide) rfl) dL_law_1190 ?_
  refine L_callV (mj := gX11_papers) (As := [.int (xs (nI (7 * q) + 1).toNatClampNeg), .int (xs (nI (7 * q) + 2).toNatClampNeg)]) (rest := []) hx hb hml hown hts hK hP hS hl.1 ml_L_123 vX11_papers sl_0 sk_0 (by decide) rfl rfl (fun _ => rfl) (Nat.le_of_ble_eq_true rfl) (by decide) dL_law_1191 (q_X11_papers h1) (fun _ => rfl) (fun H locs hP hS => ?_)
  refine lv_aload_n hx hb dL_law_1194 rfl (lv_at hl 2 rfl) ?_
  refine lv_aload_n hx hb dL_law_1195 rfl (lv_at hl 0 rfl) ?_
  refine lv_iload_n hx hb dL_law_1196 rfl (lv_at hl 3 rfl) ?_
  refine lv_iconst (v := 1) hx hb dL_law_1197 rfl ?_
  refine lv_iadd hx hb dL_law_1198 ?_
  refine va_sld hx hb hX hbl hbA hS (lin hL hq 1 (by decide) rfl) dL_law_1199 ?_
  refine lv_aload_n hx hb dL_law_1200 rfl (lv_at hl 0 rfl) ?_
  refine lv_iload_n hx hb dL_law_1201 rfl (lv_at hl 3 rfl) ?_
  refine lv_iconst (v := 2) hx hb dL_law_1202 rfl ?_
  refine lv_iadd hx hb dL_law_1203 ?_
  refine va_sld hx hb hX hbl hbA hS (lin hL hq 2 (by decide) rfl) dL_law_1204 ?_
  refine L_callV (mj := gX12_papers) (As := [.int (xs (nI (7 * q) + 1).toNatClampNeg), .int (xs (nI (7 * q) + 2).toNatClampNeg)]) (rest := [.int v1.1]) hx hb hml hown hts hK hP hS hl.1 ml_L_126 vX12_papers sl_149 sk_149 (by decide) rfl rfl (fun _ => rfl) (Nat.le_of_ble_eq_true rfl) (by decide) dL_law_1205 (q_X12_papers h2) (fun _ => rfl) (fun H locs hP hS => ?_)
  refine lv_icmp_eq (tgt := 1282) hx hb dL_law_1208 (by decide) (fun _ => ?_) (fun hc => absurd heq hc)
  exact law_next l hL C0 hK hq hI2 ih H locs ls hP hS hl
set_option maxRecDepth 20000 in
theorem law_25 {p : Program} {e : Env} {s : State} {m : MethodId} {below : List Frame} {meth : Method} {c : Code} (l : Launch) {bs L : Nat} {xs : Nat → Int32} (hL : L ≤ 3584) (C0 : lw_At p s m meth c bs L xs) {D : va_G} {cA : Nat → ClassId} (hK : gKK D cA s) {Inv : gIt → gJt → Bool → Prop} (hE : EE_25 Inv) {q : Nat} (hq : 7 * q + 7 ≤ L) {I : gIt} {J : gJt} {w : Bool} (hI : Inv I J w) (ih : ∀ I J w, Inv I J w → ∀ (H : Heap) (locs : List Loc) (ls : Array Slot), va_P D gcl (gws s.heap.size cA gS0 I J (gR0 w)) H → va_S (fun q => s.heap.size ≤ q) s.heap H locs → lv_has ls 4 [(0, .ref bs), (1, .ref (s.heap.size + 0)), (2, .ref (s.heap.size + 149)), (3, .int (nI (7 * (q + 1))))] → W p l e room_1 s m #[Value.ref bs] below meth c H locs 194 9309 (lw_Z below #[Value.ref bs] s) (F0 m 18 ls [])) : ∀ (H : Heap) (locs : List Loc) (ls : Array Slot), va_P D gcl (gws s.heap.size cA gS0 I J (gR0 w)) H → va_S (fun q => s.heap.size ≤ q) s.heap H locs → lv_has ls 4 [(0, .ref bs), (1, .ref (s.heap.size + 0)), (2, .ref (s.heap.size + 149)), (3, .int (nI (7 * q)))] → W p l e room_1 s m #[Value.ref bs] below meth c H locs 194 9309 (lw_Z below #[Value.ref bs] s) (F0 m 1213 ls []) := by
  obtain ⟨hx, hb, hr, hml, hown, hts, hX, hbl, hlocks, hgv⟩ := id C0
  have hbA : ¬ (fun q : Nat => s.heap.size ≤ q) bs := Nat.not_le.mpr hbl
  intro H locs ls hP hS hl
  obtain ⟨v1, h1, v2, h2, heq, hI2⟩ := hE I J w  hI
  refine lv_aload_n hx hb dL_law_1213 rfl (lv_at hl 1 rfl) ?_
  refine L_callV (mj := gX11_falseOnes) (As := []) (rest := []) hx hb hml hown hts hK hP hS hl.1 ml_L_127 vX11_falseOnes sl_0 sk_0 (by decide) rfl rfl (fun _ => rfl) (Nat.le_of_ble_eq_true rfl) (by decide) dL_law_1214 (q_X11_falseOnes h1) (fun _ => rfl) (fun H locs hP hS => ?_)
  refine lv_aload_n hx hb dL_law_1217 rfl (lv_at hl 2 rfl) ?_
  refine L_callV (mj := gX12_falseOnes) (As := []) (rest := [.int v1]) hx hb hml hown hts hK hP hS hl.1 ml_L_131 vX12_falseOnes sl_149 sk_149 (by decide) rfl rfl (fun _ => rfl) (Nat.le_of_ble_eq_true rfl) (by decide) dL_law_1218 (q_X12_falseOnes h2) (fun _ => rfl) (fun H locs hP hS => ?_)
  refine lv_icmp_eq (tgt := 1282) hx hb dL_law_1221 (by decide) (fun _ => ?_) (fun hc => absurd heq hc)
  exact law_next l hL C0 hK hq hI2 ih H locs ls hP hS hl
set_option maxRecDepth 20000 in
theorem law_26 {p : Program} {e : Env} {s : State} {m : MethodId} {below : List Frame} {meth : Method} {c : Code} (l : Launch) {bs L : Nat} {xs : Nat → Int32} (hL : L ≤ 3584) (C0 : lw_At p s m meth c bs L xs) {D : va_G} {cA : Nat → ClassId} (hK : gKK D cA s) {Inv : gIt → gJt → Bool → Prop} (hE : EE_26 Inv) {q : Nat} (hq : 7 * q + 7 ≤ L) {I : gIt} {J : gJt} {w : Bool} (hI : Inv I J w) (ih : ∀ I J w, Inv I J w → ∀ (H : Heap) (locs : List Loc) (ls : Array Slot), va_P D gcl (gws s.heap.size cA gS0 I J (gR0 w)) H → va_S (fun q => s.heap.size ≤ q) s.heap H locs → lv_has ls 4 [(0, .ref bs), (1, .ref (s.heap.size + 0)), (2, .ref (s.heap.size + 149)), (3, .int (nI (7 * (q + 1))))] → W p l e room_1 s m #[Value.ref bs] below meth c H locs 194 9309 (lw_Z below #[Value.ref bs] s) (F0 m 18 ls [])) : ∀ (H : Heap) (locs : List Loc) (ls : Array Slot), va_P D gcl (gws s.heap.size cA gS0 I J (gR0 w)) H → va_S (fun q => s.heap.size ≤ q) s.heap H locs → lv_has ls 4 [(0, .ref bs), (1, .ref (s.heap.size + 0)), (2, .ref (s.heap.size + 149)), (3, .int (nI (7 * q)))] → W p l e room_1 s m #[Value.ref bs] below meth c H locs 194 9309 (lw_Z below #[Value.ref bs] s) (F0 m 1226 ls []) := by
  obtain ⟨hx, hb, hr, hml, hown, hts, hX, hbl, hlocks, hgv⟩ := id C0
  have hbA : ¬ (fun q : Nat => s.heap.size ≤ q) bs := Nat.not_le.mpr hbl
  intro H locs ls hP hS hl
  obtain ⟨v1, h1, v2, h2, heq, hI2⟩ := hE I J w (xs (nI (7 * q) + 1).toNatClampNeg) (xs (nI (7 * q) + 2).toNatClampNeg) hI
  refine lv_aload_n hx hb dL_law_1226 rfl (lv_at hl 1 rfl) ?_
  refine lv_aload_n hx hb dL_law_1227 rfl (lv_at hl 0 rfl) ?_
  refine lv_iload_n hx hb dL_law_1228 rfl (lv_at hl 3 rfl) ?_
  refine lv_iconst (v := 1) hx hb dL_law_1229 rfl ?_
  refine lv_iadd hx hb dL_law_1230 ?_
  refine va_sld hx hb hX hbl hbA hS (lin hL hq 1 (by decide) rfl) dL_law_1231 ?_
  refine lv_aload_n hx hb dL_law_1232 rfl (lv_at hl 0 rfl) ?_
  refine lv_iload_n hx hb dL_law_1233 rfl (lv_at hl 3 rfl) ?_
  refine lv_iconst (v := 2) hx hb dL_law_1234 rfl ?_
  refine lv_iadd hx hb dL_law_1235 ?_
  refine va_sld hx hb hX hbl hbA hS (lin hL hq 2 (by decide) rfl) dL_law_1236 ?_
  refine L_callV (mj := gX11_look) (As := [.int (xs (nI (7 * q) + 1).toNatClampNeg), .int (xs (nI (7 * q) + 2).toNatClampNeg)]) (rest := []) hx hb hml hown hts hK hP hS hl.1 ml_L_132 vX11_look sl_0 sk_0 (by decide) rfl rfl (fun _ => rfl) (Nat.le_of_ble_eq_true rfl) (by decide) dL_law_1237 (q_X11_look h1) (fun _ => rfl) (fun H locs hP hS => ?_)
  refine lv_aload_n hx hb dL_law_1240 rfl (lv_at hl 2 rfl) ?_
  refine lv_aload_n hx hb dL_law_1241 rfl (lv_at hl 0 rfl) ?_
  refine lv_iload_n hx hb dL_law_1242 rfl (lv_at hl 3 rfl) ?_
  refine lv_iconst (v := 1) hx hb dL_law_1243 rfl ?_
  refine lv_iadd hx hb dL_law_1244 ?_
  refine va_sld hx hb hX hbl hbA hS (lin hL hq 1 (by decide) rfl) dL_law_1245 ?_
  refine lv_aload_n hx hb dL_law_1246 rfl (lv_at hl 0 rfl) ?_
  refine lv_iload_n hx hb dL_law_1247 rfl (lv_at hl 3 rfl) ?_
  refine lv_iconst (v := 2) hx hb dL_law_1248 rfl ?_
  refine lv_iadd hx hb dL_law_1249 ?_
  refine va_sld hx hb hX hbl hbA hS (lin hL hq 2 (by decide) rfl) dL_law_1250 ?_
  refine L_callV (mj := gX12_look) (As := [.int (xs (nI (7 * q) + 1).toNatClampNeg), .int (xs (nI (7 * q) + 2).toNatClampNeg)]) (rest := [.int v1]) hx hb hml hown hts hK hP hS hl.1 ml_L_135 vX12_look sl_149 sk_149 (by decide) rfl rfl (fun _ => rfl) (Nat.le_of_ble_eq_true rfl) (by decide) dL_law_1251 (q_X12_look h2) (fun _ => rfl) (fun H locs hP hS => ?_)
  refine lv_icmp_eq (tgt := 1282) hx hb dL_law_1254 (by decide) (fun _ => ?_) (fun hc => absurd heq hc)
  exact law_next l hL C0 hK hq hI2 ih H locs ls hP hS hl
set_option maxRecDepth 20000 in
theorem law_27 {p : Program} {e : Env} {s : State} {m : MethodId} {below : List Frame} {meth : Method} {c : Code} (l : Launch) {bs L : Nat} {xs : Nat → Int32} (hL : L ≤ 3584) (C0 : lw_At p s m meth c bs L xs) {D : va_G} {cA : Nat → ClassId} (hK : gKK D cA s) {Inv : gIt → gJt → Bool → Prop} (hE : EE_27 Inv) {q : Nat} (hq : 7 * q + 7 ≤ L) {I : gIt} {J : gJt} {w : Bool} (hI : Inv I J w) (ih : ∀ I J w, Inv I J w → ∀ (H : Heap) (locs : List Loc) (ls : Array Slot), va_P D gcl (gws s.heap.size cA gS0 I J (gR0 w)) H → va_S (fun q => s.heap.size ≤ q) s.heap H locs → lv_has ls 4 [(0, .ref bs), (1, .ref (s.heap.size + 0)), (2, .ref (s.heap.size + 149)), (3, .int (nI (7 * (q + 1))))] → W p l e room_1 s m #[Value.ref bs] below meth c H locs 194 9309 (lw_Z below #[Value.ref bs] s) (F0 m 18 ls [])) : ∀ (H : Heap) (locs : List Loc) (ls : Array Slot), va_P D gcl (gws s.heap.size cA gS0 I J (gR0 w)) H → va_S (fun q => s.heap.size ≤ q) s.heap H locs → lv_has ls 4 [(0, .ref bs), (1, .ref (s.heap.size + 0)), (2, .ref (s.heap.size + 149)), (3, .int (nI (7 * q)))] → W p l e room_1 s m #[Value.ref bs] below meth c H locs 194 9309 (lw_Z below #[Value.ref bs] s) (F0 m 1259 ls []) := by
  obtain ⟨hx, hb, hr, hml, hown, hts, hX, hbl, hlocks, hgv⟩ := id C0
  have hbA : ¬ (fun q : Nat => s.heap.size ≤ q) bs := Nat.not_le.mpr hbl
  intro H locs ls hP hS hl
  obtain ⟨v1, h1, v2, h2, heq, hI2⟩ := hE I J w (xs (nI (7 * q) + 1).toNatClampNeg) hI
  refine lv_aload_n hx hb dL_law_1259 rfl (lv_at hl 1 rfl) ?_
  refine lv_aload_n hx hb dL_law_1260 rfl (lv_at hl 0 rfl) ?_
  refine lv_iload_n hx hb dL_law_1261 rfl (lv_at hl 3 rfl) ?_
  refine lv_iconst (v := 1) hx hb dL_law_1262 rfl ?_
  refine lv_iadd hx hb dL_law_1263 ?_
  refine va_sld hx hb hX hbl hbA hS (lin hL hq 1 (by decide) rfl) dL_law_1264 ?_
  refine L_callV (mj := gX11_count) (As := [.int (xs (nI (7 * q) + 1).toNatClampNeg)]) (rest := []) hx hb hml hown hts hK hP hS hl.1 ml_L_136 vX11_count sl_0 sk_0 (by decide) rfl rfl (fun _ => rfl) (Nat.le_of_ble_eq_true rfl) (by decide) dL_law_1265 (q_X11_count h1) (fun _ => rfl) (fun H locs hP hS => ?_)
  refine lv_aload_n hx hb dL_law_1268 rfl (lv_at hl 2 rfl) ?_
  refine lv_aload_n hx hb dL_law_1269 rfl (lv_at hl 0 rfl) ?_
  refine lv_iload_n hx hb dL_law_1270 rfl (lv_at hl 3 rfl) ?_
  refine lv_iconst (v := 1) hx hb dL_law_1271 rfl ?_
  refine lv_iadd hx hb dL_law_1272 ?_
  refine va_sld hx hb hX hbl hbA hS (lin hL hq 1 (by decide) rfl) dL_law_1273 ?_
  refine L_callV (mj := gX12_count) (As := [.int (xs (nI (7 * q) + 1).toNatClampNeg)]) (rest := [.int v1]) hx hb hml hown hts hK hP hS hl.1 ml_L_139 vX12_count sl_149 sk_149 (by decide) rfl rfl (fun _ => rfl) (Nat.le_of_ble_eq_true rfl) (by decide) dL_law_1274 (q_X12_count h2) (fun _ => rfl) (fun H locs hP hS => ?_)
  refine lv_icmp_eq (tgt := 1282) hx hb dL_law_1277 (by decide) (fun _ => ?_) (fun hc => absurd heq hc)
  exact law_next l hL C0 hK hq hI2 ih H locs ls hP hS hl
