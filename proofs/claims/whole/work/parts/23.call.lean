/-! ===== calls ===== -/
theorem gw_good {mj : gMI} (h : Cond.code mj.1 mj.2.1 mj.2.2.1 mj.2.2.2 ∈ gtb) : GoodIn gtb (gw mj) := fun w hw => by
  rcases List.mem_cons.mp hw with rfl | hw
  · exact gtb_good _ h
  · exact gtb_good _ hw
theorem gmap_toList (f : Value → Value) (v : Option Value) : (v.map f).toList = v.toList.map f := by cases v <;> rfl
theorem gcat_sum (b : Nat) (st : List Value) : ((st.map (gcv b)).map fun v => v.category).sum = (st.map fun v => v.category).sum := by
  rw [List.map_map]
  congr 1
  apply List.map_congr_left
  intro v _
  exact gcv_cat b v
section GCl
variable {l : Launch} {mi mj : gMI} {d mc ms : Nat} {Q : gQt} {k n pc : Nat} {lv : List (Option Value)} {S : gSt} {I : gIt} {J : gJt} {R : gRt} {d' mc' ms' na idx a c0 : Nat} {As rest st0 : List Value} {Q' : gQt}
theorem gPc_blind {b : Nat} {cA : Nat → ClassId} {D : va_G} {as : List Value} : FrameBlind (va_Pc as (fun U => U.heap.size ≤ b + S.1 ∧ b ≤ U.heap.size ∧ va_P D gcl (gws b cA S I J R) U.heap ∧ gKK D cA U)) :=
  fun a U g mk q => ⟨q.1, q.2.1, q.2.2.1, q.2.2.2.1, gKK.same (s := U) rfl q.2.2.2.2⟩
/-- behind the call: the rest of the walk -/
theorem gAfter {b : Nat} {cA : Nat → ClassId} {D : va_G} {p : Program} {e : Env} {s : State} {m : MethodId} {args aa : Array Value} {below : List Frame} {meth : Method} {c : Code} {H : Heap} {locs : List Loc} {ls : Array Slot}
    (X : gX b cA D mi k p s m args meth c H locs ls lv S I J R) (kk : ∀ v S' I' J' R', Q' v S' I' J' R' → S.1 + mc' ≤ S'.1 ∧ G l mi d mc ms Q (k + mc') (n + ms') (pc + 3) lv (v.toList ++ rest) S' I' J' R')
    (hr : va_Run p l e (gR d mc ms) s m args below meth c H locs k n mc' ms' (F0 m pc ls st0) (rest.map (gcv b)) (gPost b cA D Q' aa) (fun q => b ≤ q)) :
    W p l e (gR d mc ms) s m args below meth c H locs k n (MQ below (gPost b cA D Q) args s mc ms (fun q => b ≤ q)) (F0 m pc ls st0) := by
  intro T hT Xs
  obtain ⟨v, st₀, t, T', L, h0, X', hL, e1, e2, ⟨⟨v', S', I', J', R', hv, hQ, hP'⟩, hz, hk⟩, st⟩ := hr T hT Xs
  cases hv
  rw [h0] at hz hk
  obtain ⟨hS1, hG⟩ := kk v' S' I' J' R' hQ
  have hS := X.2.2.2.1
  have hsz := X.2.1
  obtain ⟨t2, a1, b1⟩ := hG b cA D p e s m args below meth c T'.heap (locs ++ L) ls ⟨X.1, by omega, by rw [e1]; exact hP', ⟨Nat.le_trans hS.1 (by rw [e1]; exact hz), fun q h1 h2 => by rw [e1, hk q (Nat.lt_of_lt_of_le h1 hS.1) h2]; exact hS.2.1 q h1 h2, fun q hq => by
      rcases List.mem_append.mp hq with h | h
      · exact hS.2.2 q h
      · exact hL q h⟩, X.2.2.2.2⟩ T' rfl X'
  refine ⟨t2, st t2 ?_, b1⟩
  rw [List.map_append, ← gmap_toList] at a1
  exact a1
theorem gSize {b : Nat} {cA : Nat → ClassId} {D : va_G} {p : Program} {e : Env} {s : State} {m : MethodId} {args : Array Value} {below : List Frame} {meth : Method} {c : Code} {H : Heap} {locs : List Loc} {ls : Array Slot} {R0 : Room} {Qq : State → Prop} {g : JFrame}
    (X : gX b cA D mi k p s m args meth c H locs ls lv S I J R) (h : H.size ≤ b + S.1 → b ≤ H.size → W p l e R0 s m args below meth c H locs k n Qq g) : W p l e R0 s m args below meth c H locs k n Qq g := by
  intro T hT Xs
  have h1 := Xs.heapSize
  have h2 := X.2.2.2.1.1
  have h3 := X.2.1
  have h4 := X.1.2.2.2.2.2.2.2.2.2
  rw [hT] at h1
  exact h (by omega) (by omega) T hT Xs
theorem G_callV (hl : Cond.methodLink mi.1.cls idx mj.1 ∈ gtb) (hj : gMV mj na) (ha : a < S.1) (hs : (S.2 a).1 = c0) (hc0 : c0 < 13) (hcc : gC c0 = mj.1.cls) (hst : st0 = As.reverse ++ .ref a :: rest) (hn : As.length = na) (hro : (rest.map fun v => v.category).sum ≤ 8) (hd' : d' + 1 ≤ d) (hcm : k + mc' ≤ mc) (hcs : n + ms' ≤ ms) (hd : decode mi.2.1 pc = .ok (.invokevirtual idx, 3))
    (hC : Cn l mj d' mc' ms' (.ref a :: As) S I J R Q') (kk : ∀ v S' I' J' R', Q' v S' I' J' R' → S.1 + mc' ≤ S'.1 ∧ G l mi d mc ms Q (k + mc') (n + ms') (pc + 3) lv (v.toList ++ rest) S' I' J' R') : G l mi d mc ms Q k n pc lv st0 S I J R := by
  intro b cA D p e s m args below meth c H locs ls X
  refine gSize X fun hz1 hz2 => ?_
  subst hst
  have hts := X.1.2.2.2.2.2.1
  have hfix : CallFix p m c mi.2.1 mi.2.2.1 s args gtb mi.1.cls := ⟨X.1.1, X.1.2.1, X.1.2.2.2.1, X.1.2.2.2.2.1, hts⟩
  refine gAfter (Q' := Q') (aa := (Value.ref (b + a) :: As.map (gcv b)).toArray) X kk ?_
  refine va_runV (C := mj.1.cls) (bytes := mj.2.1) (maxL := mj.2.2.1) (ret := mj.2.2.2) (n := na) hfix (hC b cA D) ⟨callB_of na hts (gw_good hj.1.2.2.2) rfl rfl rfl (hts _ hj.1.2.2.1) (hts _ hl) hj.2.1 ⟨hd', ?_⟩, hts _ hj.1.1, hts _ hj.1.2.1⟩ ⟨gPc_blind, ?_, fun U hU hW => ⟨rfl, by rw [hU]; exact hz1, by rw [hU]; exact hz2, by rw [hU]; exact X.2.2.1, X.1.2.2.2.2.2.2.2.2.1.warm hW⟩⟩ rfl (by rw [List.length_map]; exact hn) X.2.2.2.2.1 ?_ ?_ hd ⟨hcm, hcs⟩
  · have := hj.2.2
    show 8 + (mj.2.2.1 + 11) + 64 * d' ≤ 64 * d
    omega
  · rw [← hcc]
    exact va_recv X.1.2.2.2.2.2.2.2.2.1.1 X.2.2.1 (gcl_at c0 hc0) (gws_obj ha hs hc0)
  · simp [gcv]
  · exact lv_room (by rw [gcat_sum]; exact hro)
theorem G_callS (hl : Cond.methodLink mi.1.cls idx mj.1 ∈ gtb) (hj : gMS mj na) (hst : st0 = As.reverse ++ rest) (hn : As.length = na) (hro : (rest.map fun v => v.category).sum ≤ 8) (hd' : d' + 1 ≤ d) (hcm : k + mc' ≤ mc) (hcs : n + ms' ≤ ms) (hd : decode mi.2.1 pc = .ok (.invokestatic idx, 3))
    (hC : Cn l mj d' mc' ms' As S I J R Q') (kk : ∀ v S' I' J' R', Q' v S' I' J' R' → S.1 + mc' ≤ S'.1 ∧ G l mi d mc ms Q (k + mc') (n + ms') (pc + 3) lv (v.toList ++ rest) S' I' J' R') : G l mi d mc ms Q k n pc lv st0 S I J R := by
  intro b cA D p e s m args below meth c H locs ls X
  refine gSize X fun hz1 hz2 => ?_
  subst hst
  have hts := X.1.2.2.2.2.2.1
  have hfix : CallFix p m c mi.2.1 mi.2.2.1 s args gtb mi.1.cls := ⟨X.1.1, X.1.2.1, X.1.2.2.2.1, X.1.2.2.2.2.1, hts⟩
  refine gAfter (Q' := Q') (aa := (As.map (gcv b)).toArray) X kk ?_
  refine va_runS (bytes := mj.2.1) (maxL := mj.2.2.1) (ret := mj.2.2.2) (n := na) hfix (hC b cA D) ⟨callB_of na hts (gw_good hj.1.2.2) rfl rfl rfl (hts _ hj.1.2.1) (hts _ hl) hj.2.1 ⟨hd', ?_⟩, hts _ hj.1.1⟩ ⟨gPc_blind, fun U hU hW => ⟨rfl, by rw [hU]; exact hz1, by rw [hU]; exact hz2, by rw [hU]; exact X.2.2.1, X.1.2.2.2.2.2.2.2.2.1.warm hW⟩⟩ rfl (by rw [List.length_map]; exact hn) X.2.2.2.2.1 ?_ ?_ hd ⟨hcm, hcs⟩
  · have := hj.2.2
    show 8 + (mj.2.2.1 + 11) + 64 * d' ≤ 64 * d
    omega
  · simp
  · exact lv_room (by rw [gcat_sum]; exact hro)
/-- a contract with a weaker end, and more depth -/
theorem Cn.weak (h : Cn l mj d mc ms As S I J R Q') (hq : ∀ v S' I' J' R', Q' v S' I' J' R' → Q v S' I' J' R') : Cn l mj d mc ms As S I J R Q := by
  intro b cA D p e ha hc hk s m args below h1 h2 h3 h4
  obtain ⟨t, o, a1, a2, a3, ⟨⟨⟨v, S', I', J', R', b1, b2, b3⟩, b4⟩, b5⟩⟩ := h b cA D p e ha hc hk s m args below h1 h2 h3 h4
  exact ⟨t, o, a1, a2, a3, ⟨⟨⟨v, S', I', J', R', b1, hq _ _ _ _ _ b2, b3⟩, b4⟩, b5⟩⟩
end GCl
