/-! ===== the law's entry: two objects are made, then the loop ===== -/
section LS
variable {p : Program} {l : Launch} {e : Env} {s : State} {m : MethodId} {below : List Frame} {meth : Method} {c : Code} {bs : Nat} {D : va_G} {cA : Nat → ClassId} {H : Heap} {locs : List Loc} {ls : Array Slot} {Qf : State → Prop} {pc n idx : Nat} {rest : List Value} {I : gIt} {J : gJt} {R : gRt} {f : Nat → Nat × Nat} {N0 : Nat}
theorem L_size {k : Nat} {S : gSt} {g : JFrame} {R0 : Room} (hP : va_P D gcl (gws s.heap.size cA S I J R) H) (hk : k ≤ S.1) (hS : s.heap.size ≤ H.size) (h : H.size = s.heap.size + S.1 → W p l e R0 s m #[Value.ref bs] below meth c H locs k n Qf g) : W p l e R0 s m #[Value.ref bs] below meth c H locs k n Qf g := by
  intro T hT Xs
  have h1 := Xs.heapSize
  rw [hT] at h1
  refine h ?_ T hT Xs
  by_cases h0 : S.1 = 0
  · omega
  · have := (hP (S.1 - 1) _ (gws_at (by omega))).lt
    dsimp only at this
    omega
theorem L_new {cc : Nat} (hx : p.tables.exec = Jvm.exec) (hb : c.code = code) (hown : s.vm.findClass R_law = some m.cls) (hts : ∀ w ∈ lw_tbl, w.before #[Value.ref bs] s = true) (hK : gKK D cA s) (hP : va_P D gcl (gws s.heap.size cA (N0, f) I J R) H) (hS : va_S (fun q => s.heap.size ≤ q) s.heap H locs)
    (hcl : Cond.classLink RL idx (gC cc) ∈ gtb) (hin : Cond.instantiable (gC cc) (gnf cc) ∈ gtb) (hini : Cond.initialized (gC cc) ∈ gtb) (hc : cc < 13) (hs : (f N0).1 = cc) (hI : ∀ j, I N0 j = 0) (hJ : ∀ j, J N0 j = 0) (hR : ∀ j, R N0 j = none) (hk : N0 + 1 ≤ 600000) (hn : n + gnf cc ≤ 7302249) (hd : decode code pc = .ok (.new idx, 3))
    (kk : ∀ H1 : Heap, va_P D gcl (gws s.heap.size cA (N0 + 1, f) I J R) H1 → va_S (fun q => s.heap.size ≤ q) s.heap H1 locs → W p l e room_1 s m #[Value.ref bs] below meth c H1 locs (N0 + 1) (n + gnf cc) Qf (F0 m (pc + 3) ls (.ref (s.heap.size + N0) :: rest))) :
    W p l e room_1 s m #[Value.ref bs] below meth c H locs N0 n Qf (F0 m pc ls rest) := by
  refine L_size hP (Nat.le_refl _) hS.1 fun hz => ?_
  have htg : ∀ w ∈ gtb, w.before #[Value.ref bs] s = true := fun w hw => hts w (List.mem_filter.mp hw).1
  have hKn := hK.1.1 cc _ (gcl_at cc hc)
  refine W.newcK hx hb hown (htg _ hcl) (htg _ hin) (htg _ hini) rfl hd hk hn hKn.2.1 hz fun H1 kC hkC e1 z1 o1 => ?_
  refine kk H1 ?_ ⟨Nat.le_trans hS.1 (by rw [z1]; omega), fun x h1 h2 => (o1 x (by have := hS.1; omega)).trans (hS.2.1 x h1 h2), hS.2.2⟩
  rw [gws_push]
  refine (hP.kept (fun q x hx => o1 x.1 (by have := (hP q x hx).lt; omega))).app (fun q x hx => ?_)
  have hz1 : q < 1 := (List.getElem?_eq_some_iff.mp hx).1
  rw [show q = 0 by omega] at hx
  cases hx
  rw [gce_obj (S := (N0 + 1, f)) hs hc]
  refine ⟨_, gcl_at cc hc, (u_born (gty cc) htg (gws_in cc hc) hKn hkC e1 (gty_ok cc hc)).to (fun j hj => ?_)⟩
  have hj : j < gnf cc := hj
  rw [gdef_ok cc hc j hj]
  simp only [vp_V, List.getD_eq_getElem?_getD, gfs_at hj, Option.getD_some]
  unfold gfv
  rw [hI, hJ, hR]
  rfl
theorem L_cI {mj : gMI} {d' mc' ms' a : Nat} {S1 : gSt} {I1 : gIt} {J1 : gJt} {R1 : gRt} (hx : p.tables.exec = Jvm.exec) (hb : c.code = code) (hml : c.maxLocals = 4) (hown : s.vm.findClass R_law = some m.cls) (hts : ∀ w ∈ lw_tbl, w.before #[Value.ref bs] s = true) (hK : gKK D cA s) (hP : va_P D gcl (gws s.heap.size cA (N0, f) I J R) H) (hS : va_S (fun q => s.heap.size ≤ q) s.heap H locs) (hls : ls.size = 4)
    (hl : Cond.methodLink RL idx mj.1 ∈ gtb) (hi : mj.1.name = "<init>") (hr : mj.2.2.2 = none) (hj : Cond.instanceMethod mj.1 ∈ gtb ∧ Cond.initialized mj.1.cls ∈ gtb ∧ Cond.code mj.1 mj.2.1 mj.2.2.1 none ∈ gtb) (hjd : mj.1.cls ≠ "java/lang/invoke/MethodHandle" ∧ mj.1.cls ≠ "java/lang/invoke/VarHandle" ∧ (parseMethodDescriptor mj.1.desc).map (fun d => d.parameters.length) = some 0) (hmL : mj.2.2.1 ≤ 45) (hro : (rest.map fun v => v.category).sum ≤ 8) (hd' : d' ≤ 1000) (hcm : N0 + mc' ≤ 600000) (hcs : n + ms' ≤ 7302249) (hd : decode code pc = .ok (.invokespecial idx, 3))
    (hC : Cn l mj d' mc' ms' [.ref a] (N0, f) I J R (fun v' S' I' J' R' => v' = none ∧ S' = S1 ∧ I' = I1 ∧ J' = J1 ∧ R' = R1))
    (kk : ∀ (H1 : Heap) (locs1 : List Loc), va_P D gcl (gws s.heap.size cA S1 I1 J1 R1) H1 → va_S (fun q => s.heap.size ≤ q) s.heap H1 locs1 → W p l e room_1 s m #[Value.ref bs] below meth c H1 locs1 (N0 + mc') (n + ms') Qf (F0 m (pc + 3) ls rest)) :
    W p l e room_1 s m #[Value.ref bs] below meth c H locs N0 n Qf (F0 m pc ls (.ref (s.heap.size + a) :: rest)) := by
  refine L_size hP (Nat.le_refl _) hS.1 fun hz => ?_
  intro T hT Xs
  have htg : ∀ w ∈ gtb, w.before #[Value.ref bs] s = true := fun w hw => hts w (List.mem_filter.mp hw).1
  have hrun : va_Run p l e room_1 s m #[Value.ref bs] below meth c H locs N0 n mc' ms' (F0 m pc ls (.ref (s.heap.size + a) :: rest)) rest _ (fun q => s.heap.size ≤ q) :=
    va_runI (b := s.heap.size + a) (As := []) (bytes := mj.2.1) (maxL := mj.2.2.1) (n := 0) ⟨hx, hb, hml, hown, htg⟩ (hC s.heap.size cA D) ⟨callB_of 0 htg (gw_good (by rw [hr]; exact hj.2.2)) (by unfold gw; rw [hr]) rfl rfl (htg _ hj.2.1) (htg _ hl) hjd ⟨by show d' + 1 ≤ 2048; omega, by show 8 + (mj.2.2.1 + 11) + 64 * d' ≤ 84000; omega⟩, hi, htg _ hj.1⟩ ⟨gPc_blind, fun U hU hW => ⟨rfl, by rw [hU, hz]; exact Nat.le_refl _, by rw [hU]; exact hS.1, by rw [hU]; exact hP, hK.warm hW⟩⟩ rfl rfl hls rfl (lv_room hro) hd ⟨hcm, hcs⟩
  obtain ⟨v, st₀, t, T', L, h0, X', hL, e1, e2, ⟨⟨v', S', I', J', R', hv, ⟨g1, g2, g3, g4, g5⟩, hP'⟩, hz2, hk⟩, st⟩ := hrun T hT Xs
  cases hv
  rw [h0] at hz2 hk
  rw [g2, g3, g4, g5] at hP'
  obtain ⟨t2, a1, b1⟩ := kk T'.heap (locs ++ L) (by rw [e1]; exact hP') ⟨Nat.le_trans hS.1 (by rw [e1]; exact hz2), fun q h1 h2 => by rw [e1, hk q (Nat.lt_of_lt_of_le h1 hS.1) h2]; exact hS.2.1 q h1 h2, fun q hq => by
      rcases List.mem_append.mp hq with h | h
      · exact hS.2.2 q h
      · exact hL q h⟩ T' rfl X'
  refine ⟨t2, st t2 ?_, b1⟩
  rw [g1]
  exact a1
end LS
theorem gins (c : Nat) (h : c < 13) : Cond.instantiable (gC c) (gnf c) ∈ gtb := by
  match c, h with
  | 0, _ => exact gtb_in 462 (by decide +kernel) (by decide +kernel)
  | 1, _ => exact gtb_in 291 (by decide +kernel) (by decide +kernel)
  | 2, _ => exact gtb_in 396 (by decide +kernel) (by decide +kernel)
  | 3, _ => exact gtb_in 278 (by decide +kernel) (by decide +kernel)
  | 4, _ => exact gtb_in 424 (by decide +kernel) (by decide +kernel)
  | 5, _ => exact gtb_in 259 (by decide +kernel) (by decide +kernel)
  | 6, _ => exact gtb_in 159 (by decide +kernel) (by decide +kernel)
  | 7, _ => exact gtb_in 114 (by decide +kernel) (by decide +kernel)
  | 8, _ => exact gtb_in 338 (by decide +kernel) (by decide +kernel)
  | 9, _ => exact gtb_in 200 (by decide +kernel) (by decide +kernel)
  | 10, _ => exact gtb_in 173 (by decide +kernel) (by decide +kernel)
  | 11, _ => exact gtb_in 106 (by decide +kernel) (by decide +kernel)
  | 12, _ => exact gtb_in 1071 (by decide +kernel) (by decide +kernel)
theorem garr {s : State} {args : Array Value} {t : FieldType} (h : (Cond.arrayClass t).before args s = true) (ho : ∀ C, t ≠ .object C) : ∃ c : ClassId, ArrOfT s c t ∧ va_RA s c t := by
  obtain ⟨c, k, comp, h1, h2, h3⟩ := Cond.arrayClass_spec h
  refine ⟨c, fun N z => ⟨(fun q hq => by cases hq), k, h2, comp, h3⟩, ?_⟩
  cases t <;> first | exact h1 | exact absurd rfl (ho _)
theorem gKK_of {s : State} {bs : Nat} (hts : ∀ w ∈ lw_tbl, w.before #[Value.ref bs] s = true) : ∃ (D : va_G) (cA : Nat → ClassId), gKK D cA s := by
  have htg : ∀ w ∈ gtb, w.before #[Value.ref bs] s = true := fun w hw => hts w (List.mem_filter.mp hw).1
  have h1 : ∀ c : Nat, ∃ x : ClassId × (Nat → Nat), c < 13 → u_Kn s (gC c) (gT c) (gnf c) x.1 x.2 := by
    intro c
    by_cases h : c < 13
    · obtain ⟨c0, iS, hKn⟩ := u_known (C := gC c) (T := gT c) (N := gnf c) (n := gnf c) htg (gws_in c h) (htg _ (gins c h))
      exact ⟨(c0, iS), fun _ => hKn⟩
    · exact ⟨(0, fun _ => 0), fun q => absurd q h⟩
  obtain ⟨F, hF⟩ := Classical.axiomOfChoice h1
  obtain ⟨c13, a13, b13⟩ := garr (htg _ gac_0) (fun C q => by cases q)
  obtain ⟨c14, a14, b14⟩ := garr (htg _ gac_1) (fun C q => by cases q)
  obtain ⟨c15, a15, b15⟩ := garr (htg _ gac_2) (fun C q => by cases q)
  obtain ⟨c16, a16, b16⟩ := garr (htg _ gac_3) (fun C q => by cases q)
  have hao : va_AO "HopeOffice$Settlement" s := va_AO.of (hts (.arrayOver (.object "HopeOffice$Settlement")) (List.mem_of_getElem? (i := 199) (by decide +kernel)))
  have haj : gAO (.array .long) s := hts (.arrayOver (.array .long)) (List.mem_of_getElem? (i := 468) (by decide +kernel))
  obtain ⟨comp, c17, k17, f1, -, f3, f4, f5⟩ := Cond.arrayOver_spec hao
  obtain ⟨comp8, c18, k18, g1, -, g3, g4, g5⟩ := gAO_spec haj
  refine ⟨(fun c => (F c).1, fun c => (F c).2), fun t => if t = 13 then c13 else if t = 14 then c14 else if t = 15 then c15 else if t = 16 then c16 else if t = 17 then c17 else c18, ⟨fun c q hq => ?_, fun k q hq => ?_⟩, fun o i y h hm => va_Nw.of rfl (hts _ hm), hao, haj⟩
  · have hc : c < 13 := by
      have := (List.getElem?_eq_some_iff.mp hq).1
      simpa using this
    rw [gcl_at c hc] at hq
    cases hq
    exact hF c hc
  · have hk : k < 6 := by
      have := (List.getElem?_eq_some_iff.mp hq).1
      simpa [gtys] using this
    match k, hk, hq with
    | 0, _, hq => cases hq; exact ⟨a13, b13⟩
    | 1, _, hq => cases hq; exact ⟨a14, b14⟩
    | 2, _, hq => cases hq; exact ⟨a15, b15⟩
    | 3, _, hq => cases hq; exact ⟨a16, b16⟩
    | 4, _, hq => cases hq; exact ⟨fun N z => ⟨(fun q hq => by cases hq), k17, f3, comp, f4⟩, k17, comp, f3, f4, f1, f5⟩
    | 5, _, hq => cases hq; exact ⟨fun N z => ⟨(fun q hq => by cases hq), k18, g3, comp8, g4⟩, g5⟩
