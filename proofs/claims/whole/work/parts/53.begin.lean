theorem lv_le1 (a : Nat) : (([Value.ref a] : List Value).map fun v => v.category).sum ≤ 8 := Nat.le_of_ble_eq_true rfl
/-! ===== the law from its entry, out of the calls' own facts ===== -/
set_option maxRecDepth 20000 in
theorem law_start {Inv : gIt → gJt → Bool → Prop} (hE0 : EE_0 Inv) (hE1 : EE_1 Inv) (hE2 : EE_2 Inv) (hE3 : EE_3 Inv) (hE4 : EE_4 Inv) (hE5 : EE_5 Inv) (hE6 : EE_6 Inv) (hE7 : EE_7 Inv) (hE8 : EE_8 Inv) (hE9 : EE_9 Inv) (hE10 : EE_10 Inv) (hE11 : EE_11 Inv) (hE12 : EE_12 Inv) (hE13 : EE_13 Inv) (hE14 : EE_14 Inv) (hE15 : EE_15 Inv) (hE16 : EE_16 Inv) (hE17 : EE_17 Inv) (hE18 : EE_18 Inv) (hE19 : EE_19 Inv) (hE20 : EE_20 Inv) (hE21 : EE_21 Inv) (hE22 : EE_22 Inv) (hE23 : EE_23 Inv) (hE24 : EE_24 Inv) (hE25 : EE_25 Inv) (hE26 : EE_26 Inv) (hE27 : EE_27 Inv) (h0 : Inv gIz gz64 false) {p : Program} {e : Env} {s : State} {m : MethodId} {below : List Frame} {meth : Method} {c : Code} (l : Launch) {b L : Nat} {xs : Nat → Int32} (hL : L ≤ 3584) (C0 : lw_At p s m meth c b L xs) : W p l e room_1 s m #[Value.ref b] below meth c s.heap [] 0 0 (lw_Z below #[Value.ref b] s) (entryFrame m ([Value.ref b] : List Value).toArray 4) := by
  obtain ⟨hx, hb, hr, hml, hown, hts, hX, hbl, hlocks, hgv⟩ := id C0
  obtain ⟨D, cA, hK⟩ := gKK_of hts
  have hS : va_S (fun q : Nat => s.heap.size ≤ q) s.heap s.heap [] := va_S.rf
  have hP : va_P D gcl (gws s.heap.size cA (0, gS0.2) gz32 gz64 (grl gl_0)) s.heap := fun k q h => by simp [gws] at h
  have hl := lv_entry ([.ref b]) (n := 4) (Nat.le_of_ble_eq_true rfl)
  rw [lg_entry_eq]
  generalize (lg_sl ([.ref b]) ++ List.replicate (4 - (lg_sl ([.ref b])).length) Slot.unset).toArray = ls at hl ⊢
  have hl : lv_has ls 4 [(0, .ref b)] := hl
  refine L_new (cc := 11) (f := gS0.2) (N0 := 0) hx hb hown hts hK hP hS (gtb_in 105 (by decide +kernel) (by decide +kernel)) (gins 11 (by decide)) (gtb_in 89 (by decide +kernel) (by decide +kernel)) (by decide) sq_0 (fun _ => rfl) (fun _ => rfl) (fun _ => rfl) (by decide) (by decide) dL_law_0 (fun H hP hS => ?_)
  refine lv_dup hx hb dL_law_3 rfl ?_
  refine L_cI (mj := gX11_init) (a := 0) hx hb hml hown hts hK hP hS hl.1 ml_L_9 rfl rfl wX11_init (by decide +kernel) (by decide) (lv_le1 _) (by decide) (by decide) (by decide) dL_law_4 qi_22 (fun H locs hP hS => ?_)
  refine lv_astore_n (lv' := [(1, .ref (s.heap.size + 0)), (0, .ref b)]) hx hb dL_law_7 rfl hl (by decide) rfl (fun ls hl => ?_)
  refine L_new (cc := 12) (f := gS0.2) (N0 := 149) hx hb hown hts hK hP hS (gtb_in 1070 (by decide +kernel) (by decide +kernel)) (gins 12 (by decide)) (gtb_in 101 (by decide +kernel) (by decide +kernel)) (by decide) sq_149 (fun _ => rfl) (fun _ => rfl) (grl_none (n := 149) (by decide) (Nat.le_refl _)) (by decide) (by decide) dL_law_8 (fun H hP hS => ?_)
  refine lv_dup hx hb dL_law_11 rfl ?_
  refine L_cI (mj := gX12_init) (a := 149) hx hb hml hown hts hK hP hS hl.1 ml_L_12 rfl rfl wX12_init (by decide +kernel) (by decide) (lv_le1 _) (by decide) (by decide) (by decide) dL_law_12 qi_23 (fun H locs hP hS => ?_)
  refine lv_astore_n (lv' := [(2, .ref (s.heap.size + 149)), (1, .ref (s.heap.size + 0)), (0, .ref b)]) hx hb dL_law_15 rfl hl (by decide) rfl (fun ls hl => ?_)
  refine lv_iconst (v := nI (7 * 0)) hx hb dL_law_16 (by decide) ?_
  refine lv_istore_n (lv' := [(3, .int (nI (7 * 0))), (2, .ref (s.heap.size + 149)), (1, .ref (s.heap.size + 0)), (0, .ref b)]) hx hb dL_law_17 rfl hl (by decide) rfl (fun ls hl => ?_)
  rw [grl_end] at hP
  exact law_loop l hL C0 hK hE0 hE1 hE2 hE3 hE4 hE5 hE6 hE7 hE8 hE9 hE10 hE11 hE12 hE13 hE14 hE15 hE16 hE17 hE18 hE19 hE20 hE21 hE22 hE23 hE24 hE25 hE26 hE27 512 0 (by omega) (by decide) gIz gz64 false h0 H locs ls hP hS (lv_sub hl [3, 2, 1, 0] rfl)
