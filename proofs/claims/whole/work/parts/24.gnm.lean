/-! ===== names, fewer locals ===== -/
section GNm
variable {l : Launch} {mi : gMI} {d mc ms : Nat} {Q : gQt} {k n pc : Nat} {lv : List (Option Value)} {st : List Value} {S : gSt} {I : gIt} {J : gJt} {R : gRt}
theorem G_nI {x : Int32} (kk : ∀ y, y = x → G l mi d mc ms Q k n pc lv (.int y :: st) S I J R) : G l mi d mc ms Q k n pc lv (.int x :: st) S I J R := kk x rfl
theorem G_nJ {x : Int64} (kk : ∀ y, y = x → G l mi d mc ms Q k n pc lv (.long y :: st) S I J R) : G l mi d mc ms Q k n pc lv (.long x :: st) S I J R := kk x rfl
theorem G_mI (kk : ∀ I', I' = I → G l mi d mc ms Q k n pc lv st S I' J R) : G l mi d mc ms Q k n pc lv st S I J R := kk I rfl
theorem G_mJ (kk : ∀ J', J' = J → G l mi d mc ms Q k n pc lv st S I J' R) : G l mi d mc ms Q k n pc lv st S I J R := kk J rfl
theorem G_lv (lv' : List (Option Value)) (h : lv = lv') (kk : G l mi d mc ms Q k n pc lv' st S I J R) : G l mi d mc ms Q k n pc lv st S I J R := h ▸ kk
theorem G_shl {x y : Int32} (hd : decode mi.2.1 pc = .ok (.ishl, 1)) (kk : G l mi d mc ms Q k n (pc + 1) lv (.int (gshl x y) :: st) S I J R) : G l mi d mc ms Q k n pc lv (.int y :: .int x :: st) S I J R := G_ishl hd kk
theorem G_shr {x y : Int32} (hd : decode mi.2.1 pc = .ok (.ishr, 1)) (kk : G l mi d mc ms Q k n (pc + 1) lv (.int (gshr x y) :: st) S I J R) : G l mi d mc ms Q k n pc lv (.int y :: .int x :: st) S I J R := G_ishr hd kk
theorem G_ushr {x y : Int32} (hd : decode mi.2.1 pc = .ok (.iushr, 1)) (kk : G l mi d mc ms Q k n (pc + 1) lv (.int (gushr x y) :: st) S I J R) : G l mi d mc ms Q k n pc lv (.int y :: .int x :: st) S I J R := G_iushr hd kk
theorem G_rem {x y : Int32} (hd : decode mi.2.1 pc = .ok (.irem, 1)) (hne : ¬ y = 0) (kk : G l mi d mc ms Q k n (pc + 1) lv (.int (grem x y) :: st) S I J R) : G l mi d mc ms Q k n pc lv (.int y :: .int x :: st) S I J R := G_irem hd hne kk
/-- fewer known locals -/
def gsub : List (Option Value) → List (Option Value) → Prop
  | [], _ => True
  | none :: r, l => gsub r (l.drop 1)
  | some v :: r, l => l[0]? = some (some v) ∧ gsub r (l.drop 1)
theorem gsub_get : ∀ (lv' lv : List (Option Value)), gsub lv' lv → ∀ (i : Nat) (v : Value), lv'[i]? = some (some v) → lv[i]? = some (some v)
  | [], _, _, i, v, h => by simp at h
  | none :: r, l, hs, 0, v, h => by simp at h
  | none :: r, l, hs, i + 1, v, h => by
    have := gsub_get r (l.drop 1) hs i v (by simpa using h)
    rw [List.getElem?_drop] at this
    rw [show i + 1 = 1 + i by omega]
    exact this
  | some w :: r, l, hs, 0, v, h => by
    simp at h
    subst h
    exact hs.1
  | some w :: r, l, hs, i + 1, v, h => by
    have := gsub_get r (l.drop 1) hs.2 i v (by simpa using h)
    rw [List.getElem?_drop] at this
    rw [show i + 1 = 1 + i by omega]
    exact this
theorem G_sub (lv' : List (Option Value)) (h : gsub lv' lv) (kk : G l mi d mc ms Q k n pc lv' st S I J R) : G l mi d mc ms Q k n pc lv st S I J R :=
  fun b cA D p e s m args below meth c H locs ls X => kk b cA D p e s m args below meth c H locs ls ⟨X.1, X.2.1, X.2.2.1, X.2.2.2.1, X.2.2.2.2.1, X.2.2.2.2.2.1, fun i v hi => X.2.2.2.2.2.2 i v (gsub_get lv' lv h i v hi)⟩
end GNm
