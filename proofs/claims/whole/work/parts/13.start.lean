/-! ===== the memory at the start ===== -/
def zc0 : ZM := (fun k => match k with
  | 10 => fun i => if i < 4 then (-1) else 0
  | 54 => fun i => if i < 10 then 4 else 0
  | 61 => fun i => if i < 10 then 4 else 0
  | 68 => fun i => if i < 10 then 4 else 0
  | 75 => fun i => if i < 10 then 4 else 0
  | 82 => fun i => if i < 10 then 4 else 0
  | 89 => fun i => if i < 10 then 4 else 0
  | 23 => fun i => if i = 14 then 1 else 0
  | 38 => fun i => if i = 15 then 1 else 0
  | _ => fun _ => 0, fun _ _ => 0)
def zm0 : ZM := (fun _ _ => 0, fun _ _ => 0)
set_option maxRecDepth 100000 in
set_option maxHeartbeats 4000000 in
theorem zrow_tr (c0 c1 c2 c3 c4 c5 c6 c7 c8 c9 c10 c11 c12 c13 c14 c15 c16 c17 c18 c19 c20 c21 c22 c23 c24 c25 c26 c27 c28 c29 c30 c31 c32 c33 c34 c35 c36 c37 c38 c39 c40 c41 c42 c43 c44 c45 c46 c47 c48 c49 c50 c51 c52 c53 c54 c55 c56 c57 c58 c59 c60 c61 c62 c63 c64 c65 c66 c67 c68 c69 c70 c71 c72 c73 c74 c75 c76 c77 c78 c79 c80 c81 c82 c83 c84 c85 c86 c87 c88 c89 : Nat) : (va_up (va_up (va_up (va_up (va_up (va_up (fun _ => none) 0 (some c48)) 1 (some c55)) 2 (some c62)) 3 (some c69)) 4 (some c76)) 5 (some c83)) = fun i => (([48, 55, 62, 69, 76, 83] : List Nat)[i]?).map (fun k => [c0, c1, c2, c3, c4, c5, c6, c7, c8, c9, c10, c11, c12, c13, c14, c15, c16, c17, c18, c19, c20, c21, c22, c23, c24, c25, c26, c27, c28, c29, c30, c31, c32, c33, c34, c35, c36, c37, c38, c39, c40, c41, c42, c43, c44, c45, c46, c47, c48, c49, c50, c51, c52, c53, c54, c55, c56, c57, c58, c59, c60, c61, c62, c63, c64, c65, c66, c67, c68, c69, c70, c71, c72, c73, c74, c75, c76, c77, c78, c79, c80, c81, c82, c83, c84, c85, c86, c87, c88, c89].getD k 0) := by
  funext i
  rcases (show i = 0 ∨ i = 1 ∨ i = 2 ∨ i = 3 ∨ i = 4 ∨ i = 5 ∨ 6 ≤ i by omega) with rfl | rfl | rfl | rfl | rfl | rfl | h
  · rfl
  · rfl
  · rfl
  · rfl
  · rfl
  · rfl
  · rw [List.getElem?_eq_none (by simpa using h)]
    simp only [va_up, Option.map_none]
    repeat rw [if_neg (by omega)]
abbrev zGc (B : ZB) (th : Nat) (c0 c1 c2 c3 c4 c5 c6 c7 c8 c9 c10 c11 c12 c13 c14 c15 c16 c17 c18 c19 c20 c21 c22 c23 c24 c25 c26 c27 c28 c29 c30 c31 c32 c33 c34 c35 c36 c37 c38 c39 c40 c41 c42 c43 c44 c45 c46 c47 c48 c49 c50 c51 c52 c53 c54 c55 c56 c57 c58 c59 c60 c61 c62 c63 c64 c65 c66 c67 c68 c69 c70 c71 c72 c73 c74 c75 c76 c77 c78 c79 c80 c81 c82 c83 c84 c85 c86 c87 c88 c89 : Nat) : ZG := (B.1, B.2.1, (fun k => [c0, c1, c2, c3, c4, c5, c6, c7, c8, c9, c10, c11, c12, c13, c14, c15, c16, c17, c18, c19, c20, c21, c22, c23, c24, c25, c26, c27, c28, c29, c30, c31, c32, c33, c34, c35, c36, c37, c38, c39, c40, c41, c42, c43, c44, c45, c46, c47, c48, c49, c50, c51, c52, c53, c54, c55, c56, c57, c58, c59, c60, c61, c62, c63, c64, c65, c66, c67, c68, c69, c70, c71, c72, c73, c74, c75, c76, c77, c78, c79, c80, c81, c82, c83, c84, c85, c86, c87, c88, c89].getD k 0), B.2.2, shC, th)
abbrev zGm (B : ZB) (th : Nat) (m0 m1 m2 m3 m4 m5 m6 m7 m8 m9 m10 m11 m12 m13 m14 m15 m16 m17 m18 m19 m20 m21 m22 m23 m24 m25 m26 m27 m28 m29 m30 m31 m32 m33 m34 m35 m36 m37 m38 m39 m40 : Nat) : ZG := (B.1, B.2.1, (fun k => [m0, m1, m2, m3, m4, m5, m6, m7, m8, m9, m10, m11, m12, m13, m14, m15, m16, m17, m18, m19, m20, m21, m22, m23, m24, m25, m26, m27, m28, m29, m30, m31, m32, m33, m34, m35, m36, m37, m38, m39, m40].getD k 0), B.2.2, shM, th)
def zfl {α β : Type} (f : Nat → α → β) : Nat → List α → List β
  | _, [] => []
  | i, t :: ts => f i t :: zfl f (i + 1) ts
theorem zfl_get {α β : Type} (f : Nat → α → β) : ∀ (ks : List α) (i j : Nat), (zfl f i ks)[j]? = ks[j]?.map (f (i + j))
  | [], i, j => by simp [zfl]
  | t :: ts, i, 0 => by simp [zfl]
  | t :: ts, i, j + 1 => by
    have := zfl_get f ts (i + 1) j
    simp only [zfl, List.getElem?_cons_succ]
    rw [this, show i + 1 + j = i + (j + 1) by omega]
theorem zobj_eq {G : ZG} {σ : ZM} {k ci : Nat} {ks : List (Option (Option Nat))} : zcell G σ k (.inl (ci, ks)) = .inr (ci, zfl (fun i t => zval G σ k i t) 0 ks) := by
  simp only [zcell]
  congr 2
  apply List.ext_getElem?
  intro j
  rw [zfl_get, List.getElem?_mapIdx, Nat.zero_add]
set_option maxRecDepth 100000 in
set_option maxHeartbeats 1000000 in
theorem zP_c0 (B : ZB) (th : Nat) (c0 c1 c2 c3 c4 c5 c6 c7 c8 c9 c10 c11 c12 c13 c14 c15 c16 c17 c18 c19 c20 c21 c22 c23 c24 c25 c26 c27 c28 c29 c30 c31 c32 c33 c34 c35 c36 c37 c38 c39 c40 c41 c42 c43 c44 c45 c46 c47 c48 c49 c50 c51 c52 c53 c54 c55 c56 c57 c58 c59 c60 c61 c62 c63 c64 c65 c66 c67 c68 c69 c70 c71 c72 c73 c74 c75 c76 c77 c78 c79 c80 c81 c82 c83 c84 c85 c86 c87 c88 c89 : Nat) {H : Heap} (hP : va_P B.2.1 vwCl [(c0, .inr (8, [.ref c1, .ref c7, .ref c12, .ref c17, .ref c23, .ref c34, .ref c38])), (c1, .inr (3, [.int 0, .int 0, .ref c2, .ref c3, .ref c4, .ref c5, .ref c6])), (c2, .inl (B.2.2 0, 10, .inl (fun _ => 0))), (c3, .inl (B.2.2 0, 10, .inl (fun _ => 0))), (c4, .inl (B.2.2 0, 100, .inl (fun _ => 0))), (c5, .inl (B.2.2 0, 10, .inl (fun _ => 0))), (c6, .inl (B.2.2 0, 10, .inl (fun _ => 0))), (c7, .inr (5, [.ref c8, .ref c9, .ref c10, .ref c11])), (c8, .inl (B.2.2 0, 4, .inl (fun _ => 0))), (c9, .inl (B.2.2 0, 4, .inl (fun _ => 0))), (c10, .inl (B.2.2 0, 4, .inl (fun i => if i < 4 then (-1) else 0))), (c11, .inl (B.2.2 0, 40, .inl (fun _ => 0))), (c12, .inr (7, [.int 0, .ref c13, .ref c14, .ref c15, .ref c16])), (c13, .inl (B.2.2 0, 4, .inl (fun _ => 0))), (c14, .inl (B.2.2 0, 4, .inl (fun _ => 0))), (c15, .inl (B.2.2 1, 4, .inl (fun _ => 0))), (c16, .inl (B.2.2 1, 4, .inl (fun _ => 0))), (c17, .inr (2, [.ref c1, .ref c7, .ref c18, .ref c19, .ref c20, .int 0, .ref c21, .ref c22])), (c18, .inl (B.2.2 0, 10, .inl (fun _ => 0))), (c19, .inl (B.2.2 2, 10, .inr (.inl (fun _ => 0)))), (c20, .inl (B.2.2 2, 10, .inr (.inl (fun _ => 0)))), (c21, .inl (B.2.2 2, 14, .inr (.inl (fun _ => 0)))), (c22, .inl (B.2.2 0, 14, .inl (fun _ => 0))), (c23, .inr (1, [.ref c1, .ref c7, .ref c12, .ref c17, .ref c24, .ref c29, .ref c30, .ref c31, .ref c32, .ref c33, .int 0, .int 0, .int 0, .int 0, .int 1])), (c24, .inr (7, [.int 0, .ref c25, .ref c26, .ref c27, .ref c28])), (c25, .inl (B.2.2 0, 4, .inl (fun _ => 0))), (c26, .inl (B.2.2 0, 4, .inl (fun _ => 0))), (c27, .inl (B.2.2 1, 4, .inl (fun _ => 0))), (c28, .inl (B.2.2 1, 4, .inl (fun _ => 0))), (c29, .inl (B.2.2 0, 4, .inl (fun _ => 0))), (c30, .inl (B.2.2 0, 625, .inl (fun _ => 0))), (c31, .inl (B.2.2 0, 625, .inl (fun _ => 0))), (c32, .inl (B.2.2 0, 4, .inl (fun _ => 0))), (c33, .inl (B.2.2 0, 4, .inl (fun _ => 0))), (c34, .inr (4, [.ref c7, .ref c12, .ref c23, .ref c35, .ref c36, .ref c37, .int 0, .int 0])), (c35, .inl (B.2.2 0, 16, .inl (fun _ => 0))), (c36, .inl (B.2.2 0, 16, .inl (fun _ => 0))), (c37, .inl (B.2.2 0, 4, .inl (fun _ => 0))), (c38, .inr (0, [.ref c1, .ref c12, .ref c17, .ref c39, .ref c44, .int 0, .ref c45, .int 0, .int 0, .ref c46, .ref c47, .int 0, .int 0, .int 0, .int 0, .int 1, .int 0])), (c39, .inr (7, [.int 0, .ref c40, .ref c41, .ref c42, .ref c43])), (c40, .inl (B.2.2 0, 4, .inl (fun _ => 0))), (c41, .inl (B.2.2 0, 4, .inl (fun _ => 0))), (c42, .inl (B.2.2 1, 4, .inl (fun _ => 0))), (c43, .inl (B.2.2 1, 4, .inl (fun _ => 0))), (c44, .inl (B.2.2 3, 6, .inr (.inr (.inr (.inr (va_up (va_up (va_up (va_up (va_up (va_up (fun _ => none) 0 (some c48)) 1 (some c55)) 2 (some c62)) 3 (some c69)) 4 (some c76)) 5 (some c83))))))), (c45, .inl (B.2.2 0, 256, .inl (fun _ => 0))), (c46, .inl (B.2.2 0, 256, .inl (fun _ => 0))), (c47, .inl (B.2.2 0, 256, .inl (fun _ => 0))), (c48, .inr (6, [.ref c49, .ref c54])), (c49, .inr (7, [.int 0, .ref c50, .ref c51, .ref c52, .ref c53])), (c50, .inl (B.2.2 0, 4, .inl (fun _ => 0))), (c51, .inl (B.2.2 0, 4, .inl (fun _ => 0))), (c52, .inl (B.2.2 1, 4, .inl (fun _ => 0))), (c53, .inl (B.2.2 1, 4, .inl (fun _ => 0))), (c54, .inl (B.2.2 0, 10, .inl (fun i => if i < 10 then 4 else 0))), (c55, .inr (6, [.ref c56, .ref c61])), (c56, .inr (7, [.int 0, .ref c57, .ref c58, .ref c59, .ref c60])), (c57, .inl (B.2.2 0, 4, .inl (fun _ => 0))), (c58, .inl (B.2.2 0, 4, .inl (fun _ => 0))), (c59, .inl (B.2.2 1, 4, .inl (fun _ => 0))), (c60, .inl (B.2.2 1, 4, .inl (fun _ => 0))), (c61, .inl (B.2.2 0, 10, .inl (fun i => if i < 10 then 4 else 0))), (c62, .inr (6, [.ref c63, .ref c68])), (c63, .inr (7, [.int 0, .ref c64, .ref c65, .ref c66, .ref c67])), (c64, .inl (B.2.2 0, 4, .inl (fun _ => 0))), (c65, .inl (B.2.2 0, 4, .inl (fun _ => 0))), (c66, .inl (B.2.2 1, 4, .inl (fun _ => 0))), (c67, .inl (B.2.2 1, 4, .inl (fun _ => 0))), (c68, .inl (B.2.2 0, 10, .inl (fun i => if i < 10 then 4 else 0))), (c69, .inr (6, [.ref c70, .ref c75])), (c70, .inr (7, [.int 0, .ref c71, .ref c72, .ref c73, .ref c74])), (c71, .inl (B.2.2 0, 4, .inl (fun _ => 0))), (c72, .inl (B.2.2 0, 4, .inl (fun _ => 0))), (c73, .inl (B.2.2 1, 4, .inl (fun _ => 0))), (c74, .inl (B.2.2 1, 4, .inl (fun _ => 0))), (c75, .inl (B.2.2 0, 10, .inl (fun i => if i < 10 then 4 else 0))), (c76, .inr (6, [.ref c77, .ref c82])), (c77, .inr (7, [.int 0, .ref c78, .ref c79, .ref c80, .ref c81])), (c78, .inl (B.2.2 0, 4, .inl (fun _ => 0))), (c79, .inl (B.2.2 0, 4, .inl (fun _ => 0))), (c80, .inl (B.2.2 1, 4, .inl (fun _ => 0))), (c81, .inl (B.2.2 1, 4, .inl (fun _ => 0))), (c82, .inl (B.2.2 0, 10, .inl (fun i => if i < 10 then 4 else 0))), (c83, .inr (6, [.ref c84, .ref c89])), (c84, .inr (7, [.int 0, .ref c85, .ref c86, .ref c87, .ref c88])), (c85, .inl (B.2.2 0, 4, .inl (fun _ => 0))), (c86, .inl (B.2.2 0, 4, .inl (fun _ => 0))), (c87, .inl (B.2.2 1, 4, .inl (fun _ => 0))), (c88, .inl (B.2.2 1, 4, .inl (fun _ => 0))), (c89, .inl (B.2.2 0, 10, .inl (fun i => if i < 10 then 4 else 0)))] H) : va_P B.2.1 vwCl (zws (zGc B th c0 c1 c2 c3 c4 c5 c6 c7 c8 c9 c10 c11 c12 c13 c14 c15 c16 c17 c18 c19 c20 c21 c22 c23 c24 c25 c26 c27 c28 c29 c30 c31 c32 c33 c34 c35 c36 c37 c38 c39 c40 c41 c42 c43 c44 c45 c46 c47 c48 c49 c50 c51 c52 c53 c54 c55 c56 c57 c58 c59 c60 c61 c62 c63 c64 c65 c66 c67 c68 c69 c70 c71 c72 c73 c74 c75 c76 c77 c78 c79 c80 c81 c82 c83 c84 c85 c86 c87 c88 c89) zc0) H := by
  have p0 : ∀ q : Nat × va_E, (zws (zGc B th c0 c1 c2 c3 c4 c5 c6 c7 c8 c9 c10 c11 c12 c13 c14 c15 c16 c17 c18 c19 c20 c21 c22 c23 c24 c25 c26 c27 c28 c29 c30 c31 c32 c33 c34 c35 c36 c37 c38 c39 c40 c41 c42 c43 c44 c45 c46 c47 c48 c49 c50 c51 c52 c53 c54 c55 c56 c57 c58 c59 c60 c61 c62 c63 c64 c65 c66 c67 c68 c69 c70 c71 c72 c73 c74 c75 c76 c77 c78 c79 c80 c81 c82 c83 c84 c85 c86 c87 c88 c89) zc0)[0]? = some q → va_at B.2.1 vwCl q H := by
    intro q h
    obtain rfl := Option.some.inj ((zws_at (sc0 rfl)).symm.trans h)
    rw [zobj_eq]
    exact hP 0 (c0, .inr (8, [.ref c1, .ref c7, .ref c12, .ref c17, .ref c23, .ref c34, .ref c38])) rfl
  have p1 : ∀ q : Nat × va_E, (zws (zGc B th c0 c1 c2 c3 c4 c5 c6 c7 c8 c9 c10 c11 c12 c13 c14 c15 c16 c17 c18 c19 c20 c21 c22 c23 c24 c25 c26 c27 c28 c29 c30 c31 c32 c33 c34 c35 c36 c37 c38 c39 c40 c41 c42 c43 c44 c45 c46 c47 c48 c49 c50 c51 c52 c53 c54 c55 c56 c57 c58 c59 c60 c61 c62 c63 c64 c65 c66 c67 c68 c69 c70 c71 c72 c73 c74 c75 c76 c77 c78 c79 c80 c81 c82 c83 c84 c85 c86 c87 c88 c89) zc0)[1]? = some q → va_at B.2.1 vwCl q H := by
    intro q h
    obtain rfl := Option.some.inj ((zws_at (sc1 rfl)).symm.trans h)
    rw [zobj_eq]
    exact hP 1 (c1, .inr (3, [.int 0, .int 0, .ref c2, .ref c3, .ref c4, .ref c5, .ref c6])) rfl
  have p2 : ∀ q : Nat × va_E, (zws (zGc B th c0 c1 c2 c3 c4 c5 c6 c7 c8 c9 c10 c11 c12 c13 c14 c15 c16 c17 c18 c19 c20 c21 c22 c23 c24 c25 c26 c27 c28 c29 c30 c31 c32 c33 c34 c35 c36 c37 c38 c39 c40 c41 c42 c43 c44 c45 c46 c47 c48 c49 c50 c51 c52 c53 c54 c55 c56 c57 c58 c59 c60 c61 c62 c63 c64 c65 c66 c67 c68 c69 c70 c71 c72 c73 c74 c75 c76 c77 c78 c79 c80 c81 c82 c83 c84 c85 c86 c87 c88 c89) zc0)[2]? = some q → va_at B.2.1 vwCl q H := by
    intro q h
    obtain rfl := Option.some.inj ((zws_at (sc2 rfl)).symm.trans h)
    exact hP 2 (c2, .inl (B.2.2 0, 10, .inl (fun _ => 0))) rfl
  have p3 : ∀ q : Nat × va_E, (zws (zGc B th c0 c1 c2 c3 c4 c5 c6 c7 c8 c9 c10 c11 c12 c13 c14 c15 c16 c17 c18 c19 c20 c21 c22 c23 c24 c25 c26 c27 c28 c29 c30 c31 c32 c33 c34 c35 c36 c37 c38 c39 c40 c41 c42 c43 c44 c45 c46 c47 c48 c49 c50 c51 c52 c53 c54 c55 c56 c57 c58 c59 c60 c61 c62 c63 c64 c65 c66 c67 c68 c69 c70 c71 c72 c73 c74 c75 c76 c77 c78 c79 c80 c81 c82 c83 c84 c85 c86 c87 c88 c89) zc0)[3]? = some q → va_at B.2.1 vwCl q H := by
    intro q h
    obtain rfl := Option.some.inj ((zws_at (sc3 rfl)).symm.trans h)
    exact hP 3 (c3, .inl (B.2.2 0, 10, .inl (fun _ => 0))) rfl
  have p4 : ∀ q : Nat × va_E, (zws (zGc B th c0 c1 c2 c3 c4 c5 c6 c7 c8 c9 c10 c11 c12 c13 c14 c15 c16 c17 c18 c19 c20 c21 c22 c23 c24 c25 c26 c27 c28 c29 c30 c31 c32 c33 c34 c35 c36 c37 c38 c39 c40 c41 c42 c43 c44 c45 c46 c47 c48 c49 c50 c51 c52 c53 c54 c55 c56 c57 c58 c59 c60 c61 c62 c63 c64 c65 c66 c67 c68 c69 c70 c71 c72 c73 c74 c75 c76 c77 c78 c79 c80 c81 c82 c83 c84 c85 c86 c87 c88 c89) zc0)[4]? = some q → va_at B.2.1 vwCl q H := by
    intro q h
    obtain rfl := Option.some.inj ((zws_at (sc4 rfl)).symm.trans h)
    exact hP 4 (c4, .inl (B.2.2 0, 100, .inl (fun _ => 0))) rfl
  have p5 : ∀ q : Nat × va_E, (zws (zGc B th c0 c1 c2 c3 c4 c5 c6 c7 c8 c9 c10 c11 c12 c13 c14 c15 c16 c17 c18 c19 c20 c21 c22 c23 c24 c25 c26 c27 c28 c29 c30 c31 c32 c33 c34 c35 c36 c37 c38 c39 c40 c41 c42 c43 c44 c45 c46 c47 c48 c49 c50 c51 c52 c53 c54 c55 c56 c57 c58 c59 c60 c61 c62 c63 c64 c65 c66 c67 c68 c69 c70 c71 c72 c73 c74 c75 c76 c77 c78 c79 c80 c81 c82 c83 c84 c85 c86 c87 c88 c89) zc0)[5]? = some q → va_at B.2.1 vwCl q H := by
    intro q h
    obtain rfl := Option.some.inj ((zws_at (sc5 rfl)).symm.trans h)
    exact hP 5 (c5, .inl (B.2.2 0, 10, .inl (fun _ => 0))) rfl
  have p6 : ∀ q : Nat × va_E, (zws (zGc B th c0 c1 c2 c3 c4 c5 c6 c7 c8 c9 c10 c11 c12 c13 c14 c15 c16 c17 c18 c19 c20 c21 c22 c23 c24 c25 c26 c27 c28 c29 c30 c31 c32 c33 c34 c35 c36 c37 c38 c39 c40 c41 c42 c43 c44 c45 c46 c47 c48 c49 c50 c51 c52 c53 c54 c55 c56 c57 c58 c59 c60 c61 c62 c63 c64 c65 c66 c67 c68 c69 c70 c71 c72 c73 c74 c75 c76 c77 c78 c79 c80 c81 c82 c83 c84 c85 c86 c87 c88 c89) zc0)[6]? = some q → va_at B.2.1 vwCl q H := by
    intro q h
    obtain rfl := Option.some.inj ((zws_at (sc6 rfl)).symm.trans h)
    exact hP 6 (c6, .inl (B.2.2 0, 10, .inl (fun _ => 0))) rfl
  have p7 : ∀ q : Nat × va_E, (zws (zGc B th c0 c1 c2 c3 c4 c5 c6 c7 c8 c9 c10 c11 c12 c13 c14 c15 c16 c17 c18 c19 c20 c21 c22 c23 c24 c25 c26 c27 c28 c29 c30 c31 c32 c33 c34 c35 c36 c37 c38 c39 c40 c41 c42 c43 c44 c45 c46 c47 c48 c49 c50 c51 c52 c53 c54 c55 c56 c57 c58 c59 c60 c61 c62 c63 c64 c65 c66 c67 c68 c69 c70 c71 c72 c73 c74 c75 c76 c77 c78 c79 c80 c81 c82 c83 c84 c85 c86 c87 c88 c89) zc0)[7]? = some q → va_at B.2.1 vwCl q H := by
    intro q h
    obtain rfl := Option.some.inj ((zws_at (sc7 rfl)).symm.trans h)
    rw [zobj_eq]
    exact hP 7 (c7, .inr (5, [.ref c8, .ref c9, .ref c10, .ref c11])) rfl
  have p8 : ∀ q : Nat × va_E, (zws (zGc B th c0 c1 c2 c3 c4 c5 c6 c7 c8 c9 c10 c11 c12 c13 c14 c15 c16 c17 c18 c19 c20 c21 c22 c23 c24 c25 c26 c27 c28 c29 c30 c31 c32 c33 c34 c35 c36 c37 c38 c39 c40 c41 c42 c43 c44 c45 c46 c47 c48 c49 c50 c51 c52 c53 c54 c55 c56 c57 c58 c59 c60 c61 c62 c63 c64 c65 c66 c67 c68 c69 c70 c71 c72 c73 c74 c75 c76 c77 c78 c79 c80 c81 c82 c83 c84 c85 c86 c87 c88 c89) zc0)[8]? = some q → va_at B.2.1 vwCl q H := by
    intro q h
    obtain rfl := Option.some.inj ((zws_at (sc8 rfl)).symm.trans h)
    exact hP 8 (c8, .inl (B.2.2 0, 4, .inl (fun _ => 0))) rfl
  have p9 : ∀ q : Nat × va_E, (zws (zGc B th c0 c1 c2 c3 c4 c5 c6 c7 c8 c9 c10 c11 c12 c13 c14 c15 c16 c17 c18 c19 c20 c21 c22 c23 c24 c25 c26 c27 c28 c29 c30 c31 c32 c33 c34 c35 c36 c37 c38 c39 c40 c41 c42 c43 c44 c45 c46 c47 c48 c49 c50 c51 c52 c53 c54 c55 c56 c57 c58 c59 c60 c61 c62 c63 c64 c65 c66 c67 c68 c69 c70 c71 c72 c73 c74 c75 c76 c77 c78 c79 c80 c81 c82 c83 c84 c85 c86 c87 c88 c89) zc0)[9]? = some q → va_at B.2.1 vwCl q H := by
    intro q h
    obtain rfl := Option.some.inj ((zws_at (sc9 rfl)).symm.trans h)
    exact hP 9 (c9, .inl (B.2.2 0, 4, .inl (fun _ => 0))) rfl
  have p10 : ∀ q : Nat × va_E, (zws (zGc B th c0 c1 c2 c3 c4 c5 c6 c7 c8 c9 c10 c11 c12 c13 c14 c15 c16 c17 c18 c19 c20 c21 c22 c23 c24 c25 c26 c27 c28 c29 c30 c31 c32 c33 c34 c35 c36 c37 c38 c39 c40 c41 c42 c43 c44 c45 c46 c47 c48 c49 c50 c51 c52 c53 c54 c55 c56 c57 c58 c59 c60 c61 c62 c63 c64 c65 c66 c67 c68 c69 c70 c71 c72 c73 c74 c75 c76 c77 c78 c79 c80 c81 c82 c83 c84 c85 c86 c87 c88 c89) zc0)[10]? = some q → va_at B.2.1 vwCl q H := by
    intro q h
    obtain rfl := Option.some.inj ((zws_at (sc10 rfl)).symm.trans h)
    exact hP 10 (c10, .inl (B.2.2 0, 4, .inl (fun i => if i < 4 then (-1) else 0))) rfl
  have p11 : ∀ q : Nat × va_E, (zws (zGc B th c0 c1 c2 c3 c4 c5 c6 c7 c8 c9 c10 c11 c12 c13 c14 c15 c16 c17 c18 c19 c20 c21 c22 c23 c24 c25 c26 c27 c28 c29 c30 c31 c32 c33 c34 c35 c36 c37 c38 c39 c40 c41 c42 c43 c44 c45 c46 c47 c48 c49 c50 c51 c52 c53 c54 c55 c56 c57 c58 c59 c60 c61 c62 c63 c64 c65 c66 c67 c68 c69 c70 c71 c72 c73 c74 c75 c76 c77 c78 c79 c80 c81 c82 c83 c84 c85 c86 c87 c88 c89) zc0)[11]? = some q → va_at B.2.1 vwCl q H := by
    intro q h
    obtain rfl := Option.some.inj ((zws_at (sc11 rfl)).symm.trans h)
    exact hP 11 (c11, .inl (B.2.2 0, 40, .inl (fun _ => 0))) rfl
  have p12 : ∀ q : Nat × va_E, (zws (zGc B th c0 c1 c2 c3 c4 c5 c6 c7 c8 c9 c10 c11 c12 c13 c14 c15 c16 c17 c18 c19 c20 c21 c22 c23 c24 c25 c26 c27 c28 c29 c30 c31 c32 c33 c34 c35 c36 c37 c38 c39 c40 c41 c42 c43 c44 c45 c46 c47 c48 c49 c50 c51 c52 c53 c54 c55 c56 c57 c58 c59 c60 c61 c62 c63 c64 c65 c66 c67 c68 c69 c70 c71 c72 c73 c74 c75 c76 c77 c78 c79 c80 c81 c82 c83 c84 c85 c86 c87 c88 c89) zc0)[12]? = some q → va_at B.2.1 vwCl q H := by
    intro q h
    obtain rfl := Option.some.inj ((zws_at (sc12 rfl)).symm.trans h)
    rw [zobj_eq]
    exact hP 12 (c12, .inr (7, [.int 0, .ref c13, .ref c14, .ref c15, .ref c16])) rfl
  have p13 : ∀ q : Nat × va_E, (zws (zGc B th c0 c1 c2 c3 c4 c5 c6 c7 c8 c9 c10 c11 c12 c13 c14 c15 c16 c17 c18 c19 c20 c21 c22 c23 c24 c25 c26 c27 c28 c29 c30 c31 c32 c33 c34 c35 c36 c37 c38 c39 c40 c41 c42 c43 c44 c45 c46 c47 c48 c49 c50 c51 c52 c53 c54 c55 c56 c57 c58 c59 c60 c61 c62 c63 c64 c65 c66 c67 c68 c69 c70 c71 c72 c73 c74 c75 c76 c77 c78 c79 c80 c81 c82 c83 c84 c85 c86 c87 c88 c89) zc0)[13]? = some q → va_at B.2.1 vwCl q H := by
    intro q h
    obtain rfl := Option.some.inj ((zws_at (sc13 rfl)).symm.trans h)
    exact hP 13 (c13, .inl (B.2.2 0, 4, .inl (fun _ => 0))) rfl
  have p14 : ∀ q : Nat × va_E, (zws (zGc B th c0 c1 c2 c3 c4 c5 c6 c7 c8 c9 c10 c11 c12 c13 c14 c15 c16 c17 c18 c19 c20 c21 c22 c23 c24 c25 c26 c27 c28 c29 c30 c31 c32 c33 c34 c35 c36 c37 c38 c39 c40 c41 c42 c43 c44 c45 c46 c47 c48 c49 c50 c51 c52 c53 c54 c55 c56 c57 c58 c59 c60 c61 c62 c63 c64 c65 c66 c67 c68 c69 c70 c71 c72 c73 c74 c75 c76 c77 c78 c79 c80 c81 c82 c83 c84 c85 c86 c87 c88 c89) zc0)[14]? = some q → va_at B.2.1 vwCl q H := by
    intro q h
    obtain rfl := Option.some.inj ((zws_at (sc14 rfl)).symm.trans h)
    exact hP 14 (c14, .inl (B.2.2 0, 4, .inl (fun _ => 0))) rfl
  have p15 : ∀ q : Nat × va_E, (zws (zGc B th c0 c1 c2 c3 c4 c5 c6 c7 c8 c9 c10 c11 c12 c13 c14 c15 c16 c17 c18 c19 c20 c21 c22 c23 c24 c25 c26 c27 c28 c29 c30 c31 c32 c33 c34 c35 c36 c37 c38 c39 c40 c41 c42 c43 c44 c45 c46 c47 c48 c49 c50 c51 c52 c53 c54 c55 c56 c57 c58 c59 c60 c61 c62 c63 c64 c65 c66 c67 c68 c69 c70 c71 c72 c73 c74 c75 c76 c77 c78 c79 c80 c81 c82 c83 c84 c85 c86 c87 c88 c89) zc0)[15]? = some q → va_at B.2.1 vwCl q H := by
    intro q h
    obtain rfl := Option.some.inj ((zws_at (sc15 rfl)).symm.trans h)
    exact hP 15 (c15, .inl (B.2.2 1, 4, .inl (fun _ => 0))) rfl
  have p16 : ∀ q : Nat × va_E, (zws (zGc B th c0 c1 c2 c3 c4 c5 c6 c7 c8 c9 c10 c11 c12 c13 c14 c15 c16 c17 c18 c19 c20 c21 c22 c23 c24 c25 c26 c27 c28 c29 c30 c31 c32 c33 c34 c35 c36 c37 c38 c39 c40 c41 c42 c43 c44 c45 c46 c47 c48 c49 c50 c51 c52 c53 c54 c55 c56 c57 c58 c59 c60 c61 c62 c63 c64 c65 c66 c67 c68 c69 c70 c71 c72 c73 c74 c75 c76 c77 c78 c79 c80 c81 c82 c83 c84 c85 c86 c87 c88 c89) zc0)[16]? = some q → va_at B.2.1 vwCl q H := by
    intro q h
    obtain rfl := Option.some.inj ((zws_at (sc16 rfl)).symm.trans h)
    exact hP 16 (c16, .inl (B.2.2 1, 4, .inl (fun _ => 0))) rfl
  have p17 : ∀ q : Nat × va_E, (zws (zGc B th c0 c1 c2 c3 c4 c5 c6 c7 c8 c9 c10 c11 c12 c13 c14 c15 c16 c17 c18 c19 c20 c21 c22 c23 c24 c25 c26 c27 c28 c29 c30 c31 c32 c33 c34 c35 c36 c37 c38 c39 c40 c41 c42 c43 c44 c45 c46 c47 c48 c49 c50 c51 c52 c53 c54 c55 c56 c57 c58 c59 c60 c61 c62 c63 c64 c65 c66 c67 c68 c69 c70 c71 c72 c73 c74 c75 c76 c77 c78 c79 c80 c81 c82 c83 c84 c85 c86 c87 c88 c89) zc0)[17]? = some q → va_at B.2.1 vwCl q H := by
    intro q h
    obtain rfl := Option.some.inj ((zws_at (sc17 rfl)).symm.trans h)
    rw [zobj_eq]
    exact hP 17 (c17, .inr (2, [.ref c1, .ref c7, .ref c18, .ref c19, .ref c20, .int 0, .ref c21, .ref c22])) rfl
  have p18 : ∀ q : Nat × va_E, (zws (zGc B th c0 c1 c2 c3 c4 c5 c6 c7 c8 c9 c10 c11 c12 c13 c14 c15 c16 c17 c18 c19 c20 c21 c22 c23 c24 c25 c26 c27 c28 c29 c30 c31 c32 c33 c34 c35 c36 c37 c38 c39 c40 c41 c42 c43 c44 c45 c46 c47 c48 c49 c50 c51 c52 c53 c54 c55 c56 c57 c58 c59 c60 c61 c62 c63 c64 c65 c66 c67 c68 c69 c70 c71 c72 c73 c74 c75 c76 c77 c78 c79 c80 c81 c82 c83 c84 c85 c86 c87 c88 c89) zc0)[18]? = some q → va_at B.2.1 vwCl q H := by
    intro q h
    obtain rfl := Option.some.inj ((zws_at (sc18 rfl)).symm.trans h)
    exact hP 18 (c18, .inl (B.2.2 0, 10, .inl (fun _ => 0))) rfl
  have p19 : ∀ q : Nat × va_E, (zws (zGc B th c0 c1 c2 c3 c4 c5 c6 c7 c8 c9 c10 c11 c12 c13 c14 c15 c16 c17 c18 c19 c20 c21 c22 c23 c24 c25 c26 c27 c28 c29 c30 c31 c32 c33 c34 c35 c36 c37 c38 c39 c40 c41 c42 c43 c44 c45 c46 c47 c48 c49 c50 c51 c52 c53 c54 c55 c56 c57 c58 c59 c60 c61 c62 c63 c64 c65 c66 c67 c68 c69 c70 c71 c72 c73 c74 c75 c76 c77 c78 c79 c80 c81 c82 c83 c84 c85 c86 c87 c88 c89) zc0)[19]? = some q → va_at B.2.1 vwCl q H := by
    intro q h
    obtain rfl := Option.some.inj ((zws_at (sc19 rfl)).symm.trans h)
    exact hP 19 (c19, .inl (B.2.2 2, 10, .inr (.inl (fun _ => 0)))) rfl
  have p20 : ∀ q : Nat × va_E, (zws (zGc B th c0 c1 c2 c3 c4 c5 c6 c7 c8 c9 c10 c11 c12 c13 c14 c15 c16 c17 c18 c19 c20 c21 c22 c23 c24 c25 c26 c27 c28 c29 c30 c31 c32 c33 c34 c35 c36 c37 c38 c39 c40 c41 c42 c43 c44 c45 c46 c47 c48 c49 c50 c51 c52 c53 c54 c55 c56 c57 c58 c59 c60 c61 c62 c63 c64 c65 c66 c67 c68 c69 c70 c71 c72 c73 c74 c75 c76 c77 c78 c79 c80 c81 c82 c83 c84 c85 c86 c87 c88 c89) zc0)[20]? = some q → va_at B.2.1 vwCl q H := by
    intro q h
    obtain rfl := Option.some.inj ((zws_at (sc20 rfl)).symm.trans h)
    exact hP 20 (c20, .inl (B.2.2 2, 10, .inr (.inl (fun _ => 0)))) rfl
  have p21 : ∀ q : Nat × va_E, (zws (zGc B th c0 c1 c2 c3 c4 c5 c6 c7 c8 c9 c10 c11 c12 c13 c14 c15 c16 c17 c18 c19 c20 c21 c22 c23 c24 c25 c26 c27 c28 c29 c30 c31 c32 c33 c34 c35 c36 c37 c38 c39 c40 c41 c42 c43 c44 c45 c46 c47 c48 c49 c50 c51 c52 c53 c54 c55 c56 c57 c58 c59 c60 c61 c62 c63 c64 c65 c66 c67 c68 c69 c70 c71 c72 c73 c74 c75 c76 c77 c78 c79 c80 c81 c82 c83 c84 c85 c86 c87 c88 c89) zc0)[21]? = some q → va_at B.2.1 vwCl q H := by
    intro q h
    obtain rfl := Option.some.inj ((zws_at (sc21 rfl)).symm.trans h)
    exact hP 21 (c21, .inl (B.2.2 2, 14, .inr (.inl (fun _ => 0)))) rfl
  have p22 : ∀ q : Nat × va_E, (zws (zGc B th c0 c1 c2 c3 c4 c5 c6 c7 c8 c9 c10 c11 c12 c13 c14 c15 c16 c17 c18 c19 c20 c21 c22 c23 c24 c25 c26 c27 c28 c29 c30 c31 c32 c33 c34 c35 c36 c37 c38 c39 c40 c41 c42 c43 c44 c45 c46 c47 c48 c49 c50 c51 c52 c53 c54 c55 c56 c57 c58 c59 c60 c61 c62 c63 c64 c65 c66 c67 c68 c69 c70 c71 c72 c73 c74 c75 c76 c77 c78 c79 c80 c81 c82 c83 c84 c85 c86 c87 c88 c89) zc0)[22]? = some q → va_at B.2.1 vwCl q H := by
    intro q h
    obtain rfl := Option.some.inj ((zws_at (sc22 rfl)).symm.trans h)
    exact hP 22 (c22, .inl (B.2.2 0, 14, .inl (fun _ => 0))) rfl
  have p23 : ∀ q : Nat × va_E, (zws (zGc B th c0 c1 c2 c3 c4 c5 c6 c7 c8 c9 c10 c11 c12 c13 c14 c15 c16 c17 c18 c19 c20 c21 c22 c23 c24 c25 c26 c27 c28 c29 c30 c31 c32 c33 c34 c35 c36 c37 c38 c39 c40 c41 c42 c43 c44 c45 c46 c47 c48 c49 c50 c51 c52 c53 c54 c55 c56 c57 c58 c59 c60 c61 c62 c63 c64 c65 c66 c67 c68 c69 c70 c71 c72 c73 c74 c75 c76 c77 c78 c79 c80 c81 c82 c83 c84 c85 c86 c87 c88 c89) zc0)[23]? = some q → va_at B.2.1 vwCl q H := by
    intro q h
    obtain rfl := Option.some.inj ((zws_at (sc23 rfl)).symm.trans h)
    rw [zobj_eq]
    exact hP 23 (c23, .inr (1, [.ref c1, .ref c7, .ref c12, .ref c17, .ref c24, .ref c29, .ref c30, .ref c31, .ref c32, .ref c33, .int 0, .int 0, .int 0, .int 0, .int 1])) rfl
  have p24 : ∀ q : Nat × va_E, (zws (zGc B th c0 c1 c2 c3 c4 c5 c6 c7 c8 c9 c10 c11 c12 c13 c14 c15 c16 c17 c18 c19 c20 c21 c22 c23 c24 c25 c26 c27 c28 c29 c30 c31 c32 c33 c34 c35 c36 c37 c38 c39 c40 c41 c42 c43 c44 c45 c46 c47 c48 c49 c50 c51 c52 c53 c54 c55 c56 c57 c58 c59 c60 c61 c62 c63 c64 c65 c66 c67 c68 c69 c70 c71 c72 c73 c74 c75 c76 c77 c78 c79 c80 c81 c82 c83 c84 c85 c86 c87 c88 c89) zc0)[24]? = some q → va_at B.2.1 vwCl q H := by
    intro q h
    obtain rfl := Option.some.inj ((zws_at (sc24 rfl)).symm.trans h)
    rw [zobj_eq]
    exact hP 24 (c24, .inr (7, [.int 0, .ref c25, .ref c26, .ref c27, .ref c28])) rfl
  have p25 : ∀ q : Nat × va_E, (zws (zGc B th c0 c1 c2 c3 c4 c5 c6 c7 c8 c9 c10 c11 c12 c13 c14 c15 c16 c17 c18 c19 c20 c21 c22 c23 c24 c25 c26 c27 c28 c29 c30 c31 c32 c33 c34 c35 c36 c37 c38 c39 c40 c41 c42 c43 c44 c45 c46 c47 c48 c49 c50 c51 c52 c53 c54 c55 c56 c57 c58 c59 c60 c61 c62 c63 c64 c65 c66 c67 c68 c69 c70 c71 c72 c73 c74 c75 c76 c77 c78 c79 c80 c81 c82 c83 c84 c85 c86 c87 c88 c89) zc0)[25]? = some q → va_at B.2.1 vwCl q H := by
    intro q h
    obtain rfl := Option.some.inj ((zws_at (sc25 rfl)).symm.trans h)
    exact hP 25 (c25, .inl (B.2.2 0, 4, .inl (fun _ => 0))) rfl
  have p26 : ∀ q : Nat × va_E, (zws (zGc B th c0 c1 c2 c3 c4 c5 c6 c7 c8 c9 c10 c11 c12 c13 c14 c15 c16 c17 c18 c19 c20 c21 c22 c23 c24 c25 c26 c27 c28 c29 c30 c31 c32 c33 c34 c35 c36 c37 c38 c39 c40 c41 c42 c43 c44 c45 c46 c47 c48 c49 c50 c51 c52 c53 c54 c55 c56 c57 c58 c59 c60 c61 c62 c63 c64 c65 c66 c67 c68 c69 c70 c71 c72 c73 c74 c75 c76 c77 c78 c79 c80 c81 c82 c83 c84 c85 c86 c87 c88 c89) zc0)[26]? = some q → va_at B.2.1 vwCl q H := by
    intro q h
    obtain rfl := Option.some.inj ((zws_at (sc26 rfl)).symm.trans h)
    exact hP 26 (c26, .inl (B.2.2 0, 4, .inl (fun _ => 0))) rfl
  have p27 : ∀ q : Nat × va_E, (zws (zGc B th c0 c1 c2 c3 c4 c5 c6 c7 c8 c9 c10 c11 c12 c13 c14 c15 c16 c17 c18 c19 c20 c21 c22 c23 c24 c25 c26 c27 c28 c29 c30 c31 c32 c33 c34 c35 c36 c37 c38 c39 c40 c41 c42 c43 c44 c45 c46 c47 c48 c49 c50 c51 c52 c53 c54 c55 c56 c57 c58 c59 c60 c61 c62 c63 c64 c65 c66 c67 c68 c69 c70 c71 c72 c73 c74 c75 c76 c77 c78 c79 c80 c81 c82 c83 c84 c85 c86 c87 c88 c89) zc0)[27]? = some q → va_at B.2.1 vwCl q H := by
    intro q h
    obtain rfl := Option.some.inj ((zws_at (sc27 rfl)).symm.trans h)
    exact hP 27 (c27, .inl (B.2.2 1, 4, .inl (fun _ => 0))) rfl
  have p28 : ∀ q : Nat × va_E, (zws (zGc B th c0 c1 c2 c3 c4 c5 c6 c7 c8 c9 c10 c11 c12 c13 c14 c15 c16 c17 c18 c19 c20 c21 c22 c23 c24 c25 c26 c27 c28 c29 c30 c31 c32 c33 c34 c35 c36 c37 c38 c39 c40 c41 c42 c43 c44 c45 c46 c47 c48 c49 c50 c51 c52 c53 c54 c55 c56 c57 c58 c59 c60 c61 c62 c63 c64 c65 c66 c67 c68 c69 c70 c71 c72 c73 c74 c75 c76 c77 c78 c79 c80 c81 c82 c83 c84 c85 c86 c87 c88 c89) zc0)[28]? = some q → va_at B.2.1 vwCl q H := by
    intro q h
    obtain rfl := Option.some.inj ((zws_at (sc28 rfl)).symm.trans h)
    exact hP 28 (c28, .inl (B.2.2 1, 4, .inl (fun _ => 0))) rfl
  have p29 : ∀ q : Nat × va_E, (zws (zGc B th c0 c1 c2 c3 c4 c5 c6 c7 c8 c9 c10 c11 c12 c13 c14 c15 c16 c17 c18 c19 c20 c21 c22 c23 c24 c25 c26 c27 c28 c29 c30 c31 c32 c33 c34 c35 c36 c37 c38 c39 c40 c41 c42 c43 c44 c45 c46 c47 c48 c49 c50 c51 c52 c53 c54 c55 c56 c57 c58 c59 c60 c61 c62 c63 c64 c65 c66 c67 c68 c69 c70 c71 c72 c73 c74 c75 c76 c77 c78 c79 c80 c81 c82 c83 c84 c85 c86 c87 c88 c89) zc0)[29]? = some q → va_at B.2.1 vwCl q H := by
    intro q h
    obtain rfl := Option.some.inj ((zws_at (sc29 rfl)).symm.trans h)
    exact hP 29 (c29, .inl (B.2.2 0, 4, .inl (fun _ => 0))) rfl
  have p30 : ∀ q : Nat × va_E, (zws (zGc B th c0 c1 c2 c3 c4 c5 c6 c7 c8 c9 c10 c11 c12 c13 c14 c15 c16 c17 c18 c19 c20 c21 c22 c23 c24 c25 c26 c27 c28 c29 c30 c31 c32 c33 c34 c35 c36 c37 c38 c39 c40 c41 c42 c43 c44 c45 c46 c47 c48 c49 c50 c51 c52 c53 c54 c55 c56 c57 c58 c59 c60 c61 c62 c63 c64 c65 c66 c67 c68 c69 c70 c71 c72 c73 c74 c75 c76 c77 c78 c79 c80 c81 c82 c83 c84 c85 c86 c87 c88 c89) zc0)[30]? = some q → va_at B.2.1 vwCl q H := by
    intro q h
    obtain rfl := Option.some.inj ((zws_at (sc30 rfl)).symm.trans h)
    exact hP 30 (c30, .inl (B.2.2 0, 625, .inl (fun _ => 0))) rfl
  have p31 : ∀ q : Nat × va_E, (zws (zGc B th c0 c1 c2 c3 c4 c5 c6 c7 c8 c9 c10 c11 c12 c13 c14 c15 c16 c17 c18 c19 c20 c21 c22 c23 c24 c25 c26 c27 c28 c29 c30 c31 c32 c33 c34 c35 c36 c37 c38 c39 c40 c41 c42 c43 c44 c45 c46 c47 c48 c49 c50 c51 c52 c53 c54 c55 c56 c57 c58 c59 c60 c61 c62 c63 c64 c65 c66 c67 c68 c69 c70 c71 c72 c73 c74 c75 c76 c77 c78 c79 c80 c81 c82 c83 c84 c85 c86 c87 c88 c89) zc0)[31]? = some q → va_at B.2.1 vwCl q H := by
    intro q h
    obtain rfl := Option.some.inj ((zws_at (sc31 rfl)).symm.trans h)
    exact hP 31 (c31, .inl (B.2.2 0, 625, .inl (fun _ => 0))) rfl
  have p32 : ∀ q : Nat × va_E, (zws (zGc B th c0 c1 c2 c3 c4 c5 c6 c7 c8 c9 c10 c11 c12 c13 c14 c15 c16 c17 c18 c19 c20 c21 c22 c23 c24 c25 c26 c27 c28 c29 c30 c31 c32 c33 c34 c35 c36 c37 c38 c39 c40 c41 c42 c43 c44 c45 c46 c47 c48 c49 c50 c51 c52 c53 c54 c55 c56 c57 c58 c59 c60 c61 c62 c63 c64 c65 c66 c67 c68 c69 c70 c71 c72 c73 c74 c75 c76 c77 c78 c79 c80 c81 c82 c83 c84 c85 c86 c87 c88 c89) zc0)[32]? = some q → va_at B.2.1 vwCl q H := by
    intro q h
    obtain rfl := Option.some.inj ((zws_at (sc32 rfl)).symm.trans h)
    exact hP 32 (c32, .inl (B.2.2 0, 4, .inl (fun _ => 0))) rfl
  have p33 : ∀ q : Nat × va_E, (zws (zGc B th c0 c1 c2 c3 c4 c5 c6 c7 c8 c9 c10 c11 c12 c13 c14 c15 c16 c17 c18 c19 c20 c21 c22 c23 c24 c25 c26 c27 c28 c29 c30 c31 c32 c33 c34 c35 c36 c37 c38 c39 c40 c41 c42 c43 c44 c45 c46 c47 c48 c49 c50 c51 c52 c53 c54 c55 c56 c57 c58 c59 c60 c61 c62 c63 c64 c65 c66 c67 c68 c69 c70 c71 c72 c73 c74 c75 c76 c77 c78 c79 c80 c81 c82 c83 c84 c85 c86 c87 c88 c89) zc0)[33]? = some q → va_at B.2.1 vwCl q H := by
    intro q h
    obtain rfl := Option.some.inj ((zws_at (sc33 rfl)).symm.trans h)
    exact hP 33 (c33, .inl (B.2.2 0, 4, .inl (fun _ => 0))) rfl
  have p34 : ∀ q : Nat × va_E, (zws (zGc B th c0 c1 c2 c3 c4 c5 c6 c7 c8 c9 c10 c11 c12 c13 c14 c15 c16 c17 c18 c19 c20 c21 c22 c23 c24 c25 c26 c27 c28 c29 c30 c31 c32 c33 c34 c35 c36 c37 c38 c39 c40 c41 c42 c43 c44 c45 c46 c47 c48 c49 c50 c51 c52 c53 c54 c55 c56 c57 c58 c59 c60 c61 c62 c63 c64 c65 c66 c67 c68 c69 c70 c71 c72 c73 c74 c75 c76 c77 c78 c79 c80 c81 c82 c83 c84 c85 c86 c87 c88 c89) zc0)[34]? = some q → va_at B.2.1 vwCl q H := by
    intro q h
    obtain rfl := Option.some.inj ((zws_at (sc34 rfl)).symm.trans h)
    rw [zobj_eq]
    exact hP 34 (c34, .inr (4, [.ref c7, .ref c12, .ref c23, .ref c35, .ref c36, .ref c37, .int 0, .int 0])) rfl
  have p35 : ∀ q : Nat × va_E, (zws (zGc B th c0 c1 c2 c3 c4 c5 c6 c7 c8 c9 c10 c11 c12 c13 c14 c15 c16 c17 c18 c19 c20 c21 c22 c23 c24 c25 c26 c27 c28 c29 c30 c31 c32 c33 c34 c35 c36 c37 c38 c39 c40 c41 c42 c43 c44 c45 c46 c47 c48 c49 c50 c51 c52 c53 c54 c55 c56 c57 c58 c59 c60 c61 c62 c63 c64 c65 c66 c67 c68 c69 c70 c71 c72 c73 c74 c75 c76 c77 c78 c79 c80 c81 c82 c83 c84 c85 c86 c87 c88 c89) zc0)[35]? = some q → va_at B.2.1 vwCl q H := by
    intro q h
    obtain rfl := Option.some.inj ((zws_at (sc35 rfl)).symm.trans h)
    exact hP 35 (c35, .inl (B.2.2 0, 16, .inl (fun _ => 0))) rfl
  have p36 : ∀ q : Nat × va_E, (zws (zGc B th c0 c1 c2 c3 c4 c5 c6 c7 c8 c9 c10 c11 c12 c13 c14 c15 c16 c17 c18 c19 c20 c21 c22 c23 c24 c25 c26 c27 c28 c29 c30 c31 c32 c33 c34 c35 c36 c37 c38 c39 c40 c41 c42 c43 c44 c45 c46 c47 c48 c49 c50 c51 c52 c53 c54 c55 c56 c57 c58 c59 c60 c61 c62 c63 c64 c65 c66 c67 c68 c69 c70 c71 c72 c73 c74 c75 c76 c77 c78 c79 c80 c81 c82 c83 c84 c85 c86 c87 c88 c89) zc0)[36]? = some q → va_at B.2.1 vwCl q H := by
    intro q h
    obtain rfl := Option.some.inj ((zws_at (sc36 rfl)).symm.trans h)
    exact hP 36 (c36, .inl (B.2.2 0, 16, .inl (fun _ => 0))) rfl
  have p37 : ∀ q : Nat × va_E, (zws (zGc B th c0 c1 c2 c3 c4 c5 c6 c7 c8 c9 c10 c11 c12 c13 c14 c15 c16 c17 c18 c19 c20 c21 c22 c23 c24 c25 c26 c27 c28 c29 c30 c31 c32 c33 c34 c35 c36 c37 c38 c39 c40 c41 c42 c43 c44 c45 c46 c47 c48 c49 c50 c51 c52 c53 c54 c55 c56 c57 c58 c59 c60 c61 c62 c63 c64 c65 c66 c67 c68 c69 c70 c71 c72 c73 c74 c75 c76 c77 c78 c79 c80 c81 c82 c83 c84 c85 c86 c87 c88 c89) zc0)[37]? = some q → va_at B.2.1 vwCl q H := by
    intro q h
    obtain rfl := Option.some.inj ((zws_at (sc37 rfl)).symm.trans h)
    exact hP 37 (c37, .inl (B.2.2 0, 4, .inl (fun _ => 0))) rfl
  have p38 : ∀ q : Nat × va_E, (zws (zGc B th c0 c1 c2 c3 c4 c5 c6 c7 c8 c9 c10 c11 c12 c13 c14 c15 c16 c17 c18 c19 c20 c21 c22 c23 c24 c25 c26 c27 c28 c29 c30 c31 c32 c33 c34 c35 c36 c37 c38 c39 c40 c41 c42 c43 c44 c45 c46 c47 c48 c49 c50 c51 c52 c53 c54 c55 c56 c57 c58 c59 c60 c61 c62 c63 c64 c65 c66 c67 c68 c69 c70 c71 c72 c73 c74 c75 c76 c77 c78 c79 c80 c81 c82 c83 c84 c85 c86 c87 c88 c89) zc0)[38]? = some q → va_at B.2.1 vwCl q H := by
    intro q h
    obtain rfl := Option.some.inj ((zws_at (sc38 rfl)).symm.trans h)
    rw [zobj_eq]
    exact hP 38 (c38, .inr (0, [.ref c1, .ref c12, .ref c17, .ref c39, .ref c44, .int 0, .ref c45, .int 0, .int 0, .ref c46, .ref c47, .int 0, .int 0, .int 0, .int 0, .int 1, .int 0])) rfl
  have p39 : ∀ q : Nat × va_E, (zws (zGc B th c0 c1 c2 c3 c4 c5 c6 c7 c8 c9 c10 c11 c12 c13 c14 c15 c16 c17 c18 c19 c20 c21 c22 c23 c24 c25 c26 c27 c28 c29 c30 c31 c32 c33 c34 c35 c36 c37 c38 c39 c40 c41 c42 c43 c44 c45 c46 c47 c48 c49 c50 c51 c52 c53 c54 c55 c56 c57 c58 c59 c60 c61 c62 c63 c64 c65 c66 c67 c68 c69 c70 c71 c72 c73 c74 c75 c76 c77 c78 c79 c80 c81 c82 c83 c84 c85 c86 c87 c88 c89) zc0)[39]? = some q → va_at B.2.1 vwCl q H := by
    intro q h
    obtain rfl := Option.some.inj ((zws_at (sc39 rfl)).symm.trans h)
    rw [zobj_eq]
    exact hP 39 (c39, .inr (7, [.int 0, .ref c40, .ref c41, .ref c42, .ref c43])) rfl
  have p40 : ∀ q : Nat × va_E, (zws (zGc B th c0 c1 c2 c3 c4 c5 c6 c7 c8 c9 c10 c11 c12 c13 c14 c15 c16 c17 c18 c19 c20 c21 c22 c23 c24 c25 c26 c27 c28 c29 c30 c31 c32 c33 c34 c35 c36 c37 c38 c39 c40 c41 c42 c43 c44 c45 c46 c47 c48 c49 c50 c51 c52 c53 c54 c55 c56 c57 c58 c59 c60 c61 c62 c63 c64 c65 c66 c67 c68 c69 c70 c71 c72 c73 c74 c75 c76 c77 c78 c79 c80 c81 c82 c83 c84 c85 c86 c87 c88 c89) zc0)[40]? = some q → va_at B.2.1 vwCl q H := by
    intro q h
    obtain rfl := Option.some.inj ((zws_at (sc40 rfl)).symm.trans h)
    exact hP 40 (c40, .inl (B.2.2 0, 4, .inl (fun _ => 0))) rfl
  have p41 : ∀ q : Nat × va_E, (zws (zGc B th c0 c1 c2 c3 c4 c5 c6 c7 c8 c9 c10 c11 c12 c13 c14 c15 c16 c17 c18 c19 c20 c21 c22 c23 c24 c25 c26 c27 c28 c29 c30 c31 c32 c33 c34 c35 c36 c37 c38 c39 c40 c41 c42 c43 c44 c45 c46 c47 c48 c49 c50 c51 c52 c53 c54 c55 c56 c57 c58 c59 c60 c61 c62 c63 c64 c65 c66 c67 c68 c69 c70 c71 c72 c73 c74 c75 c76 c77 c78 c79 c80 c81 c82 c83 c84 c85 c86 c87 c88 c89) zc0)[41]? = some q → va_at B.2.1 vwCl q H := by
    intro q h
    obtain rfl := Option.some.inj ((zws_at (sc41 rfl)).symm.trans h)
    exact hP 41 (c41, .inl (B.2.2 0, 4, .inl (fun _ => 0))) rfl
  have p42 : ∀ q : Nat × va_E, (zws (zGc B th c0 c1 c2 c3 c4 c5 c6 c7 c8 c9 c10 c11 c12 c13 c14 c15 c16 c17 c18 c19 c20 c21 c22 c23 c24 c25 c26 c27 c28 c29 c30 c31 c32 c33 c34 c35 c36 c37 c38 c39 c40 c41 c42 c43 c44 c45 c46 c47 c48 c49 c50 c51 c52 c53 c54 c55 c56 c57 c58 c59 c60 c61 c62 c63 c64 c65 c66 c67 c68 c69 c70 c71 c72 c73 c74 c75 c76 c77 c78 c79 c80 c81 c82 c83 c84 c85 c86 c87 c88 c89) zc0)[42]? = some q → va_at B.2.1 vwCl q H := by
    intro q h
    obtain rfl := Option.some.inj ((zws_at (sc42 rfl)).symm.trans h)
    exact hP 42 (c42, .inl (B.2.2 1, 4, .inl (fun _ => 0))) rfl
  have p43 : ∀ q : Nat × va_E, (zws (zGc B th c0 c1 c2 c3 c4 c5 c6 c7 c8 c9 c10 c11 c12 c13 c14 c15 c16 c17 c18 c19 c20 c21 c22 c23 c24 c25 c26 c27 c28 c29 c30 c31 c32 c33 c34 c35 c36 c37 c38 c39 c40 c41 c42 c43 c44 c45 c46 c47 c48 c49 c50 c51 c52 c53 c54 c55 c56 c57 c58 c59 c60 c61 c62 c63 c64 c65 c66 c67 c68 c69 c70 c71 c72 c73 c74 c75 c76 c77 c78 c79 c80 c81 c82 c83 c84 c85 c86 c87 c88 c89) zc0)[43]? = some q → va_at B.2.1 vwCl q H := by
    intro q h
    obtain rfl := Option.some.inj ((zws_at (sc43 rfl)).symm.trans h)
    exact hP 43 (c43, .inl (B.2.2 1, 4, .inl (fun _ => 0))) rfl
  have p44 : ∀ q : Nat × va_E, (zws (zGc B th c0 c1 c2 c3 c4 c5 c6 c7 c8 c9 c10 c11 c12 c13 c14 c15 c16 c17 c18 c19 c20 c21 c22 c23 c24 c25 c26 c27 c28 c29 c30 c31 c32 c33 c34 c35 c36 c37 c38 c39 c40 c41 c42 c43 c44 c45 c46 c47 c48 c49 c50 c51 c52 c53 c54 c55 c56 c57 c58 c59 c60 c61 c62 c63 c64 c65 c66 c67 c68 c69 c70 c71 c72 c73 c74 c75 c76 c77 c78 c79 c80 c81 c82 c83 c84 c85 c86 c87 c88 c89) zc0)[44]? = some q → va_at B.2.1 vwCl q H := by
    intro q h
    obtain rfl := Option.some.inj ((zws_at (sc44 rfl)).symm.trans h)
    have := hP 44 _ rfl
    rw [zrow_tr c0 c1 c2 c3 c4 c5 c6 c7 c8 c9 c10 c11 c12 c13 c14 c15 c16 c17 c18 c19 c20 c21 c22 c23 c24 c25 c26 c27 c28 c29 c30 c31 c32 c33 c34 c35 c36 c37 c38 c39 c40 c41 c42 c43 c44 c45 c46 c47 c48 c49 c50 c51 c52 c53 c54 c55 c56 c57 c58 c59 c60 c61 c62 c63 c64 c65 c66 c67 c68 c69 c70 c71 c72 c73 c74 c75 c76 c77 c78 c79 c80 c81 c82 c83 c84 c85 c86 c87 c88 c89] at this
    exact this
  have p45 : ∀ q : Nat × va_E, (zws (zGc B th c0 c1 c2 c3 c4 c5 c6 c7 c8 c9 c10 c11 c12 c13 c14 c15 c16 c17 c18 c19 c20 c21 c22 c23 c24 c25 c26 c27 c28 c29 c30 c31 c32 c33 c34 c35 c36 c37 c38 c39 c40 c41 c42 c43 c44 c45 c46 c47 c48 c49 c50 c51 c52 c53 c54 c55 c56 c57 c58 c59 c60 c61 c62 c63 c64 c65 c66 c67 c68 c69 c70 c71 c72 c73 c74 c75 c76 c77 c78 c79 c80 c81 c82 c83 c84 c85 c86 c87 c88 c89) zc0)[45]? = some q → va_at B.2.1 vwCl q H := by
    intro q h
    obtain rfl := Option.some.inj ((zws_at (sc45 rfl)).symm.trans h)
    exact hP 45 (c45, .inl (B.2.2 0, 256, .inl (fun _ => 0))) rfl
  have p46 : ∀ q : Nat × va_E, (zws (zGc B th c0 c1 c2 c3 c4 c5 c6 c7 c8 c9 c10 c11 c12 c13 c14 c15 c16 c17 c18 c19 c20 c21 c22 c23 c24 c25 c26 c27 c28 c29 c30 c31 c32 c33 c34 c35 c36 c37 c38 c39 c40 c41 c42 c43 c44 c45 c46 c47 c48 c49 c50 c51 c52 c53 c54 c55 c56 c57 c58 c59 c60 c61 c62 c63 c64 c65 c66 c67 c68 c69 c70 c71 c72 c73 c74 c75 c76 c77 c78 c79 c80 c81 c82 c83 c84 c85 c86 c87 c88 c89) zc0)[46]? = some q → va_at B.2.1 vwCl q H := by
    intro q h
    obtain rfl := Option.some.inj ((zws_at (sc46 rfl)).symm.trans h)
    exact hP 46 (c46, .inl (B.2.2 0, 256, .inl (fun _ => 0))) rfl
  have p47 : ∀ q : Nat × va_E, (zws (zGc B th c0 c1 c2 c3 c4 c5 c6 c7 c8 c9 c10 c11 c12 c13 c14 c15 c16 c17 c18 c19 c20 c21 c22 c23 c24 c25 c26 c27 c28 c29 c30 c31 c32 c33 c34 c35 c36 c37 c38 c39 c40 c41 c42 c43 c44 c45 c46 c47 c48 c49 c50 c51 c52 c53 c54 c55 c56 c57 c58 c59 c60 c61 c62 c63 c64 c65 c66 c67 c68 c69 c70 c71 c72 c73 c74 c75 c76 c77 c78 c79 c80 c81 c82 c83 c84 c85 c86 c87 c88 c89) zc0)[47]? = some q → va_at B.2.1 vwCl q H := by
    intro q h
    obtain rfl := Option.some.inj ((zws_at (sc47 rfl)).symm.trans h)
    exact hP 47 (c47, .inl (B.2.2 0, 256, .inl (fun _ => 0))) rfl
  have p48 : ∀ q : Nat × va_E, (zws (zGc B th c0 c1 c2 c3 c4 c5 c6 c7 c8 c9 c10 c11 c12 c13 c14 c15 c16 c17 c18 c19 c20 c21 c22 c23 c24 c25 c26 c27 c28 c29 c30 c31 c32 c33 c34 c35 c36 c37 c38 c39 c40 c41 c42 c43 c44 c45 c46 c47 c48 c49 c50 c51 c52 c53 c54 c55 c56 c57 c58 c59 c60 c61 c62 c63 c64 c65 c66 c67 c68 c69 c70 c71 c72 c73 c74 c75 c76 c77 c78 c79 c80 c81 c82 c83 c84 c85 c86 c87 c88 c89) zc0)[48]? = some q → va_at B.2.1 vwCl q H := by
    intro q h
    obtain rfl := Option.some.inj ((zws_at (sc48 rfl)).symm.trans h)
    rw [zobj_eq]
    exact hP 48 (c48, .inr (6, [.ref c49, .ref c54])) rfl
  have p49 : ∀ q : Nat × va_E, (zws (zGc B th c0 c1 c2 c3 c4 c5 c6 c7 c8 c9 c10 c11 c12 c13 c14 c15 c16 c17 c18 c19 c20 c21 c22 c23 c24 c25 c26 c27 c28 c29 c30 c31 c32 c33 c34 c35 c36 c37 c38 c39 c40 c41 c42 c43 c44 c45 c46 c47 c48 c49 c50 c51 c52 c53 c54 c55 c56 c57 c58 c59 c60 c61 c62 c63 c64 c65 c66 c67 c68 c69 c70 c71 c72 c73 c74 c75 c76 c77 c78 c79 c80 c81 c82 c83 c84 c85 c86 c87 c88 c89) zc0)[49]? = some q → va_at B.2.1 vwCl q H := by
    intro q h
    obtain rfl := Option.some.inj ((zws_at (sc49 rfl)).symm.trans h)
    rw [zobj_eq]
    exact hP 49 (c49, .inr (7, [.int 0, .ref c50, .ref c51, .ref c52, .ref c53])) rfl
  have p50 : ∀ q : Nat × va_E, (zws (zGc B th c0 c1 c2 c3 c4 c5 c6 c7 c8 c9 c10 c11 c12 c13 c14 c15 c16 c17 c18 c19 c20 c21 c22 c23 c24 c25 c26 c27 c28 c29 c30 c31 c32 c33 c34 c35 c36 c37 c38 c39 c40 c41 c42 c43 c44 c45 c46 c47 c48 c49 c50 c51 c52 c53 c54 c55 c56 c57 c58 c59 c60 c61 c62 c63 c64 c65 c66 c67 c68 c69 c70 c71 c72 c73 c74 c75 c76 c77 c78 c79 c80 c81 c82 c83 c84 c85 c86 c87 c88 c89) zc0)[50]? = some q → va_at B.2.1 vwCl q H := by
    intro q h
    obtain rfl := Option.some.inj ((zws_at (sc50 rfl)).symm.trans h)
    exact hP 50 (c50, .inl (B.2.2 0, 4, .inl (fun _ => 0))) rfl
  have p51 : ∀ q : Nat × va_E, (zws (zGc B th c0 c1 c2 c3 c4 c5 c6 c7 c8 c9 c10 c11 c12 c13 c14 c15 c16 c17 c18 c19 c20 c21 c22 c23 c24 c25 c26 c27 c28 c29 c30 c31 c32 c33 c34 c35 c36 c37 c38 c39 c40 c41 c42 c43 c44 c45 c46 c47 c48 c49 c50 c51 c52 c53 c54 c55 c56 c57 c58 c59 c60 c61 c62 c63 c64 c65 c66 c67 c68 c69 c70 c71 c72 c73 c74 c75 c76 c77 c78 c79 c80 c81 c82 c83 c84 c85 c86 c87 c88 c89) zc0)[51]? = some q → va_at B.2.1 vwCl q H := by
    intro q h
    obtain rfl := Option.some.inj ((zws_at (sc51 rfl)).symm.trans h)
    exact hP 51 (c51, .inl (B.2.2 0, 4, .inl (fun _ => 0))) rfl
  have p52 : ∀ q : Nat × va_E, (zws (zGc B th c0 c1 c2 c3 c4 c5 c6 c7 c8 c9 c10 c11 c12 c13 c14 c15 c16 c17 c18 c19 c20 c21 c22 c23 c24 c25 c26 c27 c28 c29 c30 c31 c32 c33 c34 c35 c36 c37 c38 c39 c40 c41 c42 c43 c44 c45 c46 c47 c48 c49 c50 c51 c52 c53 c54 c55 c56 c57 c58 c59 c60 c61 c62 c63 c64 c65 c66 c67 c68 c69 c70 c71 c72 c73 c74 c75 c76 c77 c78 c79 c80 c81 c82 c83 c84 c85 c86 c87 c88 c89) zc0)[52]? = some q → va_at B.2.1 vwCl q H := by
    intro q h
    obtain rfl := Option.some.inj ((zws_at (sc52 rfl)).symm.trans h)
    exact hP 52 (c52, .inl (B.2.2 1, 4, .inl (fun _ => 0))) rfl
  have p53 : ∀ q : Nat × va_E, (zws (zGc B th c0 c1 c2 c3 c4 c5 c6 c7 c8 c9 c10 c11 c12 c13 c14 c15 c16 c17 c18 c19 c20 c21 c22 c23 c24 c25 c26 c27 c28 c29 c30 c31 c32 c33 c34 c35 c36 c37 c38 c39 c40 c41 c42 c43 c44 c45 c46 c47 c48 c49 c50 c51 c52 c53 c54 c55 c56 c57 c58 c59 c60 c61 c62 c63 c64 c65 c66 c67 c68 c69 c70 c71 c72 c73 c74 c75 c76 c77 c78 c79 c80 c81 c82 c83 c84 c85 c86 c87 c88 c89) zc0)[53]? = some q → va_at B.2.1 vwCl q H := by
    intro q h
    obtain rfl := Option.some.inj ((zws_at (sc53 rfl)).symm.trans h)
    exact hP 53 (c53, .inl (B.2.2 1, 4, .inl (fun _ => 0))) rfl
  have p54 : ∀ q : Nat × va_E, (zws (zGc B th c0 c1 c2 c3 c4 c5 c6 c7 c8 c9 c10 c11 c12 c13 c14 c15 c16 c17 c18 c19 c20 c21 c22 c23 c24 c25 c26 c27 c28 c29 c30 c31 c32 c33 c34 c35 c36 c37 c38 c39 c40 c41 c42 c43 c44 c45 c46 c47 c48 c49 c50 c51 c52 c53 c54 c55 c56 c57 c58 c59 c60 c61 c62 c63 c64 c65 c66 c67 c68 c69 c70 c71 c72 c73 c74 c75 c76 c77 c78 c79 c80 c81 c82 c83 c84 c85 c86 c87 c88 c89) zc0)[54]? = some q → va_at B.2.1 vwCl q H := by
    intro q h
    obtain rfl := Option.some.inj ((zws_at (sc54 rfl)).symm.trans h)
    exact hP 54 (c54, .inl (B.2.2 0, 10, .inl (fun i => if i < 10 then 4 else 0))) rfl
  have p55 : ∀ q : Nat × va_E, (zws (zGc B th c0 c1 c2 c3 c4 c5 c6 c7 c8 c9 c10 c11 c12 c13 c14 c15 c16 c17 c18 c19 c20 c21 c22 c23 c24 c25 c26 c27 c28 c29 c30 c31 c32 c33 c34 c35 c36 c37 c38 c39 c40 c41 c42 c43 c44 c45 c46 c47 c48 c49 c50 c51 c52 c53 c54 c55 c56 c57 c58 c59 c60 c61 c62 c63 c64 c65 c66 c67 c68 c69 c70 c71 c72 c73 c74 c75 c76 c77 c78 c79 c80 c81 c82 c83 c84 c85 c86 c87 c88 c89) zc0)[55]? = some q → va_at B.2.1 vwCl q H := by
    intro q h
    obtain rfl := Option.some.inj ((zws_at (sc55 rfl)).symm.trans h)
    rw [zobj_eq]
    exact hP 55 (c55, .inr (6, [.ref c56, .ref c61])) rfl
  have p56 : ∀ q : Nat × va_E, (zws (zGc B th c0 c1 c2 c3 c4 c5 c6 c7 c8 c9 c10 c11 c12 c13 c14 c15 c16 c17 c18 c19 c20 c21 c22 c23 c24 c25 c26 c27 c28 c29 c30 c31 c32 c33 c34 c35 c36 c37 c38 c39 c40 c41 c42 c43 c44 c45 c46 c47 c48 c49 c50 c51 c52 c53 c54 c55 c56 c57 c58 c59 c60 c61 c62 c63 c64 c65 c66 c67 c68 c69 c70 c71 c72 c73 c74 c75 c76 c77 c78 c79 c80 c81 c82 c83 c84 c85 c86 c87 c88 c89) zc0)[56]? = some q → va_at B.2.1 vwCl q H := by
    intro q h
    obtain rfl := Option.some.inj ((zws_at (sc56 rfl)).symm.trans h)
    rw [zobj_eq]
    exact hP 56 (c56, .inr (7, [.int 0, .ref c57, .ref c58, .ref c59, .ref c60])) rfl
  have p57 : ∀ q : Nat × va_E, (zws (zGc B th c0 c1 c2 c3 c4 c5 c6 c7 c8 c9 c10 c11 c12 c13 c14 c15 c16 c17 c18 c19 c20 c21 c22 c23 c24 c25 c26 c27 c28 c29 c30 c31 c32 c33 c34 c35 c36 c37 c38 c39 c40 c41 c42 c43 c44 c45 c46 c47 c48 c49 c50 c51 c52 c53 c54 c55 c56 c57 c58 c59 c60 c61 c62 c63 c64 c65 c66 c67 c68 c69 c70 c71 c72 c73 c74 c75 c76 c77 c78 c79 c80 c81 c82 c83 c84 c85 c86 c87 c88 c89) zc0)[57]? = some q → va_at B.2.1 vwCl q H := by
    intro q h
    obtain rfl := Option.some.inj ((zws_at (sc57 rfl)).symm.trans h)
    exact hP 57 (c57, .inl (B.2.2 0, 4, .inl (fun _ => 0))) rfl
  have p58 : ∀ q : Nat × va_E, (zws (zGc B th c0 c1 c2 c3 c4 c5 c6 c7 c8 c9 c10 c11 c12 c13 c14 c15 c16 c17 c18 c19 c20 c21 c22 c23 c24 c25 c26 c27 c28 c29 c30 c31 c32 c33 c34 c35 c36 c37 c38 c39 c40 c41 c42 c43 c44 c45 c46 c47 c48 c49 c50 c51 c52 c53 c54 c55 c56 c57 c58 c59 c60 c61 c62 c63 c64 c65 c66 c67 c68 c69 c70 c71 c72 c73 c74 c75 c76 c77 c78 c79 c80 c81 c82 c83 c84 c85 c86 c87 c88 c89) zc0)[58]? = some q → va_at B.2.1 vwCl q H := by
    intro q h
    obtain rfl := Option.some.inj ((zws_at (sc58 rfl)).symm.trans h)
    exact hP 58 (c58, .inl (B.2.2 0, 4, .inl (fun _ => 0))) rfl
  have p59 : ∀ q : Nat × va_E, (zws (zGc B th c0 c1 c2 c3 c4 c5 c6 c7 c8 c9 c10 c11 c12 c13 c14 c15 c16 c17 c18 c19 c20 c21 c22 c23 c24 c25 c26 c27 c28 c29 c30 c31 c32 c33 c34 c35 c36 c37 c38 c39 c40 c41 c42 c43 c44 c45 c46 c47 c48 c49 c50 c51 c52 c53 c54 c55 c56 c57 c58 c59 c60 c61 c62 c63 c64 c65 c66 c67 c68 c69 c70 c71 c72 c73 c74 c75 c76 c77 c78 c79 c80 c81 c82 c83 c84 c85 c86 c87 c88 c89) zc0)[59]? = some q → va_at B.2.1 vwCl q H := by
    intro q h
    obtain rfl := Option.some.inj ((zws_at (sc59 rfl)).symm.trans h)
    exact hP 59 (c59, .inl (B.2.2 1, 4, .inl (fun _ => 0))) rfl
  have p60 : ∀ q : Nat × va_E, (zws (zGc B th c0 c1 c2 c3 c4 c5 c6 c7 c8 c9 c10 c11 c12 c13 c14 c15 c16 c17 c18 c19 c20 c21 c22 c23 c24 c25 c26 c27 c28 c29 c30 c31 c32 c33 c34 c35 c36 c37 c38 c39 c40 c41 c42 c43 c44 c45 c46 c47 c48 c49 c50 c51 c52 c53 c54 c55 c56 c57 c58 c59 c60 c61 c62 c63 c64 c65 c66 c67 c68 c69 c70 c71 c72 c73 c74 c75 c76 c77 c78 c79 c80 c81 c82 c83 c84 c85 c86 c87 c88 c89) zc0)[60]? = some q → va_at B.2.1 vwCl q H := by
    intro q h
    obtain rfl := Option.some.inj ((zws_at (sc60 rfl)).symm.trans h)
    exact hP 60 (c60, .inl (B.2.2 1, 4, .inl (fun _ => 0))) rfl
  have p61 : ∀ q : Nat × va_E, (zws (zGc B th c0 c1 c2 c3 c4 c5 c6 c7 c8 c9 c10 c11 c12 c13 c14 c15 c16 c17 c18 c19 c20 c21 c22 c23 c24 c25 c26 c27 c28 c29 c30 c31 c32 c33 c34 c35 c36 c37 c38 c39 c40 c41 c42 c43 c44 c45 c46 c47 c48 c49 c50 c51 c52 c53 c54 c55 c56 c57 c58 c59 c60 c61 c62 c63 c64 c65 c66 c67 c68 c69 c70 c71 c72 c73 c74 c75 c76 c77 c78 c79 c80 c81 c82 c83 c84 c85 c86 c87 c88 c89) zc0)[61]? = some q → va_at B.2.1 vwCl q H := by
    intro q h
    obtain rfl := Option.some.inj ((zws_at (sc61 rfl)).symm.trans h)
    exact hP 61 (c61, .inl (B.2.2 0, 10, .inl (fun i => if i < 10 then 4 else 0))) rfl
  have p62 : ∀ q : Nat × va_E, (zws (zGc B th c0 c1 c2 c3 c4 c5 c6 c7 c8 c9 c10 c11 c12 c13 c14 c15 c16 c17 c18 c19 c20 c21 c22 c23 c24 c25 c26 c27 c28 c29 c30 c31 c32 c33 c34 c35 c36 c37 c38 c39 c40 c41 c42 c43 c44 c45 c46 c47 c48 c49 c50 c51 c52 c53 c54 c55 c56 c57 c58 c59 c60 c61 c62 c63 c64 c65 c66 c67 c68 c69 c70 c71 c72 c73 c74 c75 c76 c77 c78 c79 c80 c81 c82 c83 c84 c85 c86 c87 c88 c89) zc0)[62]? = some q → va_at B.2.1 vwCl q H := by
    intro q h
    obtain rfl := Option.some.inj ((zws_at (sc62 rfl)).symm.trans h)
    rw [zobj_eq]
    exact hP 62 (c62, .inr (6, [.ref c63, .ref c68])) rfl
  have p63 : ∀ q : Nat × va_E, (zws (zGc B th c0 c1 c2 c3 c4 c5 c6 c7 c8 c9 c10 c11 c12 c13 c14 c15 c16 c17 c18 c19 c20 c21 c22 c23 c24 c25 c26 c27 c28 c29 c30 c31 c32 c33 c34 c35 c36 c37 c38 c39 c40 c41 c42 c43 c44 c45 c46 c47 c48 c49 c50 c51 c52 c53 c54 c55 c56 c57 c58 c59 c60 c61 c62 c63 c64 c65 c66 c67 c68 c69 c70 c71 c72 c73 c74 c75 c76 c77 c78 c79 c80 c81 c82 c83 c84 c85 c86 c87 c88 c89) zc0)[63]? = some q → va_at B.2.1 vwCl q H := by
    intro q h
    obtain rfl := Option.some.inj ((zws_at (sc63 rfl)).symm.trans h)
    rw [zobj_eq]
    exact hP 63 (c63, .inr (7, [.int 0, .ref c64, .ref c65, .ref c66, .ref c67])) rfl
  have p64 : ∀ q : Nat × va_E, (zws (zGc B th c0 c1 c2 c3 c4 c5 c6 c7 c8 c9 c10 c11 c12 c13 c14 c15 c16 c17 c18 c19 c20 c21 c22 c23 c24 c25 c26 c27 c28 c29 c30 c31 c32 c33 c34 c35 c36 c37 c38 c39 c40 c41 c42 c43 c44 c45 c46 c47 c48 c49 c50 c51 c52 c53 c54 c55 c56 c57 c58 c59 c60 c61 c62 c63 c64 c65 c66 c67 c68 c69 c70 c71 c72 c73 c74 c75 c76 c77 c78 c79 c80 c81 c82 c83 c84 c85 c86 c87 c88 c89) zc0)[64]? = some q → va_at B.2.1 vwCl q H := by
    intro q h
    obtain rfl := Option.some.inj ((zws_at (sc64 rfl)).symm.trans h)
    exact hP 64 (c64, .inl (B.2.2 0, 4, .inl (fun _ => 0))) rfl
  have p65 : ∀ q : Nat × va_E, (zws (zGc B th c0 c1 c2 c3 c4 c5 c6 c7 c8 c9 c10 c11 c12 c13 c14 c15 c16 c17 c18 c19 c20 c21 c22 c23 c24 c25 c26 c27 c28 c29 c30 c31 c32 c33 c34 c35 c36 c37 c38 c39 c40 c41 c42 c43 c44 c45 c46 c47 c48 c49 c50 c51 c52 c53 c54 c55 c56 c57 c58 c59 c60 c61 c62 c63 c64 c65 c66 c67 c68 c69 c70 c71 c72 c73 c74 c75 c76 c77 c78 c79 c80 c81 c82 c83 c84 c85 c86 c87 c88 c89) zc0)[65]? = some q → va_at B.2.1 vwCl q H := by
    intro q h
    obtain rfl := Option.some.inj ((zws_at (sc65 rfl)).symm.trans h)
    exact hP 65 (c65, .inl (B.2.2 0, 4, .inl (fun _ => 0))) rfl
  have p66 : ∀ q : Nat × va_E, (zws (zGc B th c0 c1 c2 c3 c4 c5 c6 c7 c8 c9 c10 c11 c12 c13 c14 c15 c16 c17 c18 c19 c20 c21 c22 c23 c24 c25 c26 c27 c28 c29 c30 c31 c32 c33 c34 c35 c36 c37 c38 c39 c40 c41 c42 c43 c44 c45 c46 c47 c48 c49 c50 c51 c52 c53 c54 c55 c56 c57 c58 c59 c60 c61 c62 c63 c64 c65 c66 c67 c68 c69 c70 c71 c72 c73 c74 c75 c76 c77 c78 c79 c80 c81 c82 c83 c84 c85 c86 c87 c88 c89) zc0)[66]? = some q → va_at B.2.1 vwCl q H := by
    intro q h
    obtain rfl := Option.some.inj ((zws_at (sc66 rfl)).symm.trans h)
    exact hP 66 (c66, .inl (B.2.2 1, 4, .inl (fun _ => 0))) rfl
  have p67 : ∀ q : Nat × va_E, (zws (zGc B th c0 c1 c2 c3 c4 c5 c6 c7 c8 c9 c10 c11 c12 c13 c14 c15 c16 c17 c18 c19 c20 c21 c22 c23 c24 c25 c26 c27 c28 c29 c30 c31 c32 c33 c34 c35 c36 c37 c38 c39 c40 c41 c42 c43 c44 c45 c46 c47 c48 c49 c50 c51 c52 c53 c54 c55 c56 c57 c58 c59 c60 c61 c62 c63 c64 c65 c66 c67 c68 c69 c70 c71 c72 c73 c74 c75 c76 c77 c78 c79 c80 c81 c82 c83 c84 c85 c86 c87 c88 c89) zc0)[67]? = some q → va_at B.2.1 vwCl q H := by
    intro q h
    obtain rfl := Option.some.inj ((zws_at (sc67 rfl)).symm.trans h)
    exact hP 67 (c67, .inl (B.2.2 1, 4, .inl (fun _ => 0))) rfl
  have p68 : ∀ q : Nat × va_E, (zws (zGc B th c0 c1 c2 c3 c4 c5 c6 c7 c8 c9 c10 c11 c12 c13 c14 c15 c16 c17 c18 c19 c20 c21 c22 c23 c24 c25 c26 c27 c28 c29 c30 c31 c32 c33 c34 c35 c36 c37 c38 c39 c40 c41 c42 c43 c44 c45 c46 c47 c48 c49 c50 c51 c52 c53 c54 c55 c56 c57 c58 c59 c60 c61 c62 c63 c64 c65 c66 c67 c68 c69 c70 c71 c72 c73 c74 c75 c76 c77 c78 c79 c80 c81 c82 c83 c84 c85 c86 c87 c88 c89) zc0)[68]? = some q → va_at B.2.1 vwCl q H := by
    intro q h
    obtain rfl := Option.some.inj ((zws_at (sc68 rfl)).symm.trans h)
    exact hP 68 (c68, .inl (B.2.2 0, 10, .inl (fun i => if i < 10 then 4 else 0))) rfl
  have p69 : ∀ q : Nat × va_E, (zws (zGc B th c0 c1 c2 c3 c4 c5 c6 c7 c8 c9 c10 c11 c12 c13 c14 c15 c16 c17 c18 c19 c20 c21 c22 c23 c24 c25 c26 c27 c28 c29 c30 c31 c32 c33 c34 c35 c36 c37 c38 c39 c40 c41 c42 c43 c44 c45 c46 c47 c48 c49 c50 c51 c52 c53 c54 c55 c56 c57 c58 c59 c60 c61 c62 c63 c64 c65 c66 c67 c68 c69 c70 c71 c72 c73 c74 c75 c76 c77 c78 c79 c80 c81 c82 c83 c84 c85 c86 c87 c88 c89) zc0)[69]? = some q → va_at B.2.1 vwCl q H := by
    intro q h
    obtain rfl := Option.some.inj ((zws_at (sc69 rfl)).symm.trans h)
    rw [zobj_eq]
    exact hP 69 (c69, .inr (6, [.ref c70, .ref c75])) rfl
  have p70 : ∀ q : Nat × va_E, (zws (zGc B th c0 c1 c2 c3 c4 c5 c6 c7 c8 c9 c10 c11 c12 c13 c14 c15 c16 c17 c18 c19 c20 c21 c22 c23 c24 c25 c26 c27 c28 c29 c30 c31 c32 c33 c34 c35 c36 c37 c38 c39 c40 c41 c42 c43 c44 c45 c46 c47 c48 c49 c50 c51 c52 c53 c54 c55 c56 c57 c58 c59 c60 c61 c62 c63 c64 c65 c66 c67 c68 c69 c70 c71 c72 c73 c74 c75 c76 c77 c78 c79 c80 c81 c82 c83 c84 c85 c86 c87 c88 c89) zc0)[70]? = some q → va_at B.2.1 vwCl q H := by
    intro q h
    obtain rfl := Option.some.inj ((zws_at (sc70 rfl)).symm.trans h)
    rw [zobj_eq]
    exact hP 70 (c70, .inr (7, [.int 0, .ref c71, .ref c72, .ref c73, .ref c74])) rfl
  have p71 : ∀ q : Nat × va_E, (zws (zGc B th c0 c1 c2 c3 c4 c5 c6 c7 c8 c9 c10 c11 c12 c13 c14 c15 c16 c17 c18 c19 c20 c21 c22 c23 c24 c25 c26 c27 c28 c29 c30 c31 c32 c33 c34 c35 c36 c37 c38 c39 c40 c41 c42 c43 c44 c45 c46 c47 c48 c49 c50 c51 c52 c53 c54 c55 c56 c57 c58 c59 c60 c61 c62 c63 c64 c65 c66 c67 c68 c69 c70 c71 c72 c73 c74 c75 c76 c77 c78 c79 c80 c81 c82 c83 c84 c85 c86 c87 c88 c89) zc0)[71]? = some q → va_at B.2.1 vwCl q H := by
    intro q h
    obtain rfl := Option.some.inj ((zws_at (sc71 rfl)).symm.trans h)
    exact hP 71 (c71, .inl (B.2.2 0, 4, .inl (fun _ => 0))) rfl
  have p72 : ∀ q : Nat × va_E, (zws (zGc B th c0 c1 c2 c3 c4 c5 c6 c7 c8 c9 c10 c11 c12 c13 c14 c15 c16 c17 c18 c19 c20 c21 c22 c23 c24 c25 c26 c27 c28 c29 c30 c31 c32 c33 c34 c35 c36 c37 c38 c39 c40 c41 c42 c43 c44 c45 c46 c47 c48 c49 c50 c51 c52 c53 c54 c55 c56 c57 c58 c59 c60 c61 c62 c63 c64 c65 c66 c67 c68 c69 c70 c71 c72 c73 c74 c75 c76 c77 c78 c79 c80 c81 c82 c83 c84 c85 c86 c87 c88 c89) zc0)[72]? = some q → va_at B.2.1 vwCl q H := by
    intro q h
    obtain rfl := Option.some.inj ((zws_at (sc72 rfl)).symm.trans h)
    exact hP 72 (c72, .inl (B.2.2 0, 4, .inl (fun _ => 0))) rfl
  have p73 : ∀ q : Nat × va_E, (zws (zGc B th c0 c1 c2 c3 c4 c5 c6 c7 c8 c9 c10 c11 c12 c13 c14 c15 c16 c17 c18 c19 c20 c21 c22 c23 c24 c25 c26 c27 c28 c29 c30 c31 c32 c33 c34 c35 c36 c37 c38 c39 c40 c41 c42 c43 c44 c45 c46 c47 c48 c49 c50 c51 c52 c53 c54 c55 c56 c57 c58 c59 c60 c61 c62 c63 c64 c65 c66 c67 c68 c69 c70 c71 c72 c73 c74 c75 c76 c77 c78 c79 c80 c81 c82 c83 c84 c85 c86 c87 c88 c89) zc0)[73]? = some q → va_at B.2.1 vwCl q H := by
    intro q h
    obtain rfl := Option.some.inj ((zws_at (sc73 rfl)).symm.trans h)
    exact hP 73 (c73, .inl (B.2.2 1, 4, .inl (fun _ => 0))) rfl
  have p74 : ∀ q : Nat × va_E, (zws (zGc B th c0 c1 c2 c3 c4 c5 c6 c7 c8 c9 c10 c11 c12 c13 c14 c15 c16 c17 c18 c19 c20 c21 c22 c23 c24 c25 c26 c27 c28 c29 c30 c31 c32 c33 c34 c35 c36 c37 c38 c39 c40 c41 c42 c43 c44 c45 c46 c47 c48 c49 c50 c51 c52 c53 c54 c55 c56 c57 c58 c59 c60 c61 c62 c63 c64 c65 c66 c67 c68 c69 c70 c71 c72 c73 c74 c75 c76 c77 c78 c79 c80 c81 c82 c83 c84 c85 c86 c87 c88 c89) zc0)[74]? = some q → va_at B.2.1 vwCl q H := by
    intro q h
    obtain rfl := Option.some.inj ((zws_at (sc74 rfl)).symm.trans h)
    exact hP 74 (c74, .inl (B.2.2 1, 4, .inl (fun _ => 0))) rfl
  have p75 : ∀ q : Nat × va_E, (zws (zGc B th c0 c1 c2 c3 c4 c5 c6 c7 c8 c9 c10 c11 c12 c13 c14 c15 c16 c17 c18 c19 c20 c21 c22 c23 c24 c25 c26 c27 c28 c29 c30 c31 c32 c33 c34 c35 c36 c37 c38 c39 c40 c41 c42 c43 c44 c45 c46 c47 c48 c49 c50 c51 c52 c53 c54 c55 c56 c57 c58 c59 c60 c61 c62 c63 c64 c65 c66 c67 c68 c69 c70 c71 c72 c73 c74 c75 c76 c77 c78 c79 c80 c81 c82 c83 c84 c85 c86 c87 c88 c89) zc0)[75]? = some q → va_at B.2.1 vwCl q H := by
    intro q h
    obtain rfl := Option.some.inj ((zws_at (sc75 rfl)).symm.trans h)
    exact hP 75 (c75, .inl (B.2.2 0, 10, .inl (fun i => if i < 10 then 4 else 0))) rfl
  have p76 : ∀ q : Nat × va_E, (zws (zGc B th c0 c1 c2 c3 c4 c5 c6 c7 c8 c9 c10 c11 c12 c13 c14 c15 c16 c17 c18 c19 c20 c21 c22 c23 c24 c25 c26 c27 c28 c29 c30 c31 c32 c33 c34 c35 c36 c37 c38 c39 c40 c41 c42 c43 c44 c45 c46 c47 c48 c49 c50 c51 c52 c53 c54 c55 c56 c57 c58 c59 c60 c61 c62 c63 c64 c65 c66 c67 c68 c69 c70 c71 c72 c73 c74 c75 c76 c77 c78 c79 c80 c81 c82 c83 c84 c85 c86 c87 c88 c89) zc0)[76]? = some q → va_at B.2.1 vwCl q H := by
    intro q h
    obtain rfl := Option.some.inj ((zws_at (sc76 rfl)).symm.trans h)
    rw [zobj_eq]
    exact hP 76 (c76, .inr (6, [.ref c77, .ref c82])) rfl
  have p77 : ∀ q : Nat × va_E, (zws (zGc B th c0 c1 c2 c3 c4 c5 c6 c7 c8 c9 c10 c11 c12 c13 c14 c15 c16 c17 c18 c19 c20 c21 c22 c23 c24 c25 c26 c27 c28 c29 c30 c31 c32 c33 c34 c35 c36 c37 c38 c39 c40 c41 c42 c43 c44 c45 c46 c47 c48 c49 c50 c51 c52 c53 c54 c55 c56 c57 c58 c59 c60 c61 c62 c63 c64 c65 c66 c67 c68 c69 c70 c71 c72 c73 c74 c75 c76 c77 c78 c79 c80 c81 c82 c83 c84 c85 c86 c87 c88 c89) zc0)[77]? = some q → va_at B.2.1 vwCl q H := by
    intro q h
    obtain rfl := Option.some.inj ((zws_at (sc77 rfl)).symm.trans h)
    rw [zobj_eq]
    exact hP 77 (c77, .inr (7, [.int 0, .ref c78, .ref c79, .ref c80, .ref c81])) rfl
  have p78 : ∀ q : Nat × va_E, (zws (zGc B th c0 c1 c2 c3 c4 c5 c6 c7 c8 c9 c10 c11 c12 c13 c14 c15 c16 c17 c18 c19 c20 c21 c22 c23 c24 c25 c26 c27 c28 c29 c30 c31 c32 c33 c34 c35 c36 c37 c38 c39 c40 c41 c42 c43 c44 c45 c46 c47 c48 c49 c50 c51 c52 c53 c54 c55 c56 c57 c58 c59 c60 c61 c62 c63 c64 c65 c66 c67 c68 c69 c70 c71 c72 c73 c74 c75 c76 c77 c78 c79 c80 c81 c82 c83 c84 c85 c86 c87 c88 c89) zc0)[78]? = some q → va_at B.2.1 vwCl q H := by
    intro q h
    obtain rfl := Option.some.inj ((zws_at (sc78 rfl)).symm.trans h)
    exact hP 78 (c78, .inl (B.2.2 0, 4, .inl (fun _ => 0))) rfl
  have p79 : ∀ q : Nat × va_E, (zws (zGc B th c0 c1 c2 c3 c4 c5 c6 c7 c8 c9 c10 c11 c12 c13 c14 c15 c16 c17 c18 c19 c20 c21 c22 c23 c24 c25 c26 c27 c28 c29 c30 c31 c32 c33 c34 c35 c36 c37 c38 c39 c40 c41 c42 c43 c44 c45 c46 c47 c48 c49 c50 c51 c52 c53 c54 c55 c56 c57 c58 c59 c60 c61 c62 c63 c64 c65 c66 c67 c68 c69 c70 c71 c72 c73 c74 c75 c76 c77 c78 c79 c80 c81 c82 c83 c84 c85 c86 c87 c88 c89) zc0)[79]? = some q → va_at B.2.1 vwCl q H := by
    intro q h
    obtain rfl := Option.some.inj ((zws_at (sc79 rfl)).symm.trans h)
    exact hP 79 (c79, .inl (B.2.2 0, 4, .inl (fun _ => 0))) rfl
  have p80 : ∀ q : Nat × va_E, (zws (zGc B th c0 c1 c2 c3 c4 c5 c6 c7 c8 c9 c10 c11 c12 c13 c14 c15 c16 c17 c18 c19 c20 c21 c22 c23 c24 c25 c26 c27 c28 c29 c30 c31 c32 c33 c34 c35 c36 c37 c38 c39 c40 c41 c42 c43 c44 c45 c46 c47 c48 c49 c50 c51 c52 c53 c54 c55 c56 c57 c58 c59 c60 c61 c62 c63 c64 c65 c66 c67 c68 c69 c70 c71 c72 c73 c74 c75 c76 c77 c78 c79 c80 c81 c82 c83 c84 c85 c86 c87 c88 c89) zc0)[80]? = some q → va_at B.2.1 vwCl q H := by
    intro q h
    obtain rfl := Option.some.inj ((zws_at (sc80 rfl)).symm.trans h)
    exact hP 80 (c80, .inl (B.2.2 1, 4, .inl (fun _ => 0))) rfl
  have p81 : ∀ q : Nat × va_E, (zws (zGc B th c0 c1 c2 c3 c4 c5 c6 c7 c8 c9 c10 c11 c12 c13 c14 c15 c16 c17 c18 c19 c20 c21 c22 c23 c24 c25 c26 c27 c28 c29 c30 c31 c32 c33 c34 c35 c36 c37 c38 c39 c40 c41 c42 c43 c44 c45 c46 c47 c48 c49 c50 c51 c52 c53 c54 c55 c56 c57 c58 c59 c60 c61 c62 c63 c64 c65 c66 c67 c68 c69 c70 c71 c72 c73 c74 c75 c76 c77 c78 c79 c80 c81 c82 c83 c84 c85 c86 c87 c88 c89) zc0)[81]? = some q → va_at B.2.1 vwCl q H := by
    intro q h
    obtain rfl := Option.some.inj ((zws_at (sc81 rfl)).symm.trans h)
    exact hP 81 (c81, .inl (B.2.2 1, 4, .inl (fun _ => 0))) rfl
  have p82 : ∀ q : Nat × va_E, (zws (zGc B th c0 c1 c2 c3 c4 c5 c6 c7 c8 c9 c10 c11 c12 c13 c14 c15 c16 c17 c18 c19 c20 c21 c22 c23 c24 c25 c26 c27 c28 c29 c30 c31 c32 c33 c34 c35 c36 c37 c38 c39 c40 c41 c42 c43 c44 c45 c46 c47 c48 c49 c50 c51 c52 c53 c54 c55 c56 c57 c58 c59 c60 c61 c62 c63 c64 c65 c66 c67 c68 c69 c70 c71 c72 c73 c74 c75 c76 c77 c78 c79 c80 c81 c82 c83 c84 c85 c86 c87 c88 c89) zc0)[82]? = some q → va_at B.2.1 vwCl q H := by
    intro q h
    obtain rfl := Option.some.inj ((zws_at (sc82 rfl)).symm.trans h)
    exact hP 82 (c82, .inl (B.2.2 0, 10, .inl (fun i => if i < 10 then 4 else 0))) rfl
  have p83 : ∀ q : Nat × va_E, (zws (zGc B th c0 c1 c2 c3 c4 c5 c6 c7 c8 c9 c10 c11 c12 c13 c14 c15 c16 c17 c18 c19 c20 c21 c22 c23 c24 c25 c26 c27 c28 c29 c30 c31 c32 c33 c34 c35 c36 c37 c38 c39 c40 c41 c42 c43 c44 c45 c46 c47 c48 c49 c50 c51 c52 c53 c54 c55 c56 c57 c58 c59 c60 c61 c62 c63 c64 c65 c66 c67 c68 c69 c70 c71 c72 c73 c74 c75 c76 c77 c78 c79 c80 c81 c82 c83 c84 c85 c86 c87 c88 c89) zc0)[83]? = some q → va_at B.2.1 vwCl q H := by
    intro q h
    obtain rfl := Option.some.inj ((zws_at (sc83 rfl)).symm.trans h)
    rw [zobj_eq]
    exact hP 83 (c83, .inr (6, [.ref c84, .ref c89])) rfl
  have p84 : ∀ q : Nat × va_E, (zws (zGc B th c0 c1 c2 c3 c4 c5 c6 c7 c8 c9 c10 c11 c12 c13 c14 c15 c16 c17 c18 c19 c20 c21 c22 c23 c24 c25 c26 c27 c28 c29 c30 c31 c32 c33 c34 c35 c36 c37 c38 c39 c40 c41 c42 c43 c44 c45 c46 c47 c48 c49 c50 c51 c52 c53 c54 c55 c56 c57 c58 c59 c60 c61 c62 c63 c64 c65 c66 c67 c68 c69 c70 c71 c72 c73 c74 c75 c76 c77 c78 c79 c80 c81 c82 c83 c84 c85 c86 c87 c88 c89) zc0)[84]? = some q → va_at B.2.1 vwCl q H := by
    intro q h
    obtain rfl := Option.some.inj ((zws_at (sc84 rfl)).symm.trans h)
    rw [zobj_eq]
    exact hP 84 (c84, .inr (7, [.int 0, .ref c85, .ref c86, .ref c87, .ref c88])) rfl
  have p85 : ∀ q : Nat × va_E, (zws (zGc B th c0 c1 c2 c3 c4 c5 c6 c7 c8 c9 c10 c11 c12 c13 c14 c15 c16 c17 c18 c19 c20 c21 c22 c23 c24 c25 c26 c27 c28 c29 c30 c31 c32 c33 c34 c35 c36 c37 c38 c39 c40 c41 c42 c43 c44 c45 c46 c47 c48 c49 c50 c51 c52 c53 c54 c55 c56 c57 c58 c59 c60 c61 c62 c63 c64 c65 c66 c67 c68 c69 c70 c71 c72 c73 c74 c75 c76 c77 c78 c79 c80 c81 c82 c83 c84 c85 c86 c87 c88 c89) zc0)[85]? = some q → va_at B.2.1 vwCl q H := by
    intro q h
    obtain rfl := Option.some.inj ((zws_at (sc85 rfl)).symm.trans h)
    exact hP 85 (c85, .inl (B.2.2 0, 4, .inl (fun _ => 0))) rfl
  have p86 : ∀ q : Nat × va_E, (zws (zGc B th c0 c1 c2 c3 c4 c5 c6 c7 c8 c9 c10 c11 c12 c13 c14 c15 c16 c17 c18 c19 c20 c21 c22 c23 c24 c25 c26 c27 c28 c29 c30 c31 c32 c33 c34 c35 c36 c37 c38 c39 c40 c41 c42 c43 c44 c45 c46 c47 c48 c49 c50 c51 c52 c53 c54 c55 c56 c57 c58 c59 c60 c61 c62 c63 c64 c65 c66 c67 c68 c69 c70 c71 c72 c73 c74 c75 c76 c77 c78 c79 c80 c81 c82 c83 c84 c85 c86 c87 c88 c89) zc0)[86]? = some q → va_at B.2.1 vwCl q H := by
    intro q h
    obtain rfl := Option.some.inj ((zws_at (sc86 rfl)).symm.trans h)
    exact hP 86 (c86, .inl (B.2.2 0, 4, .inl (fun _ => 0))) rfl
  have p87 : ∀ q : Nat × va_E, (zws (zGc B th c0 c1 c2 c3 c4 c5 c6 c7 c8 c9 c10 c11 c12 c13 c14 c15 c16 c17 c18 c19 c20 c21 c22 c23 c24 c25 c26 c27 c28 c29 c30 c31 c32 c33 c34 c35 c36 c37 c38 c39 c40 c41 c42 c43 c44 c45 c46 c47 c48 c49 c50 c51 c52 c53 c54 c55 c56 c57 c58 c59 c60 c61 c62 c63 c64 c65 c66 c67 c68 c69 c70 c71 c72 c73 c74 c75 c76 c77 c78 c79 c80 c81 c82 c83 c84 c85 c86 c87 c88 c89) zc0)[87]? = some q → va_at B.2.1 vwCl q H := by
    intro q h
    obtain rfl := Option.some.inj ((zws_at (sc87 rfl)).symm.trans h)
    exact hP 87 (c87, .inl (B.2.2 1, 4, .inl (fun _ => 0))) rfl
  have p88 : ∀ q : Nat × va_E, (zws (zGc B th c0 c1 c2 c3 c4 c5 c6 c7 c8 c9 c10 c11 c12 c13 c14 c15 c16 c17 c18 c19 c20 c21 c22 c23 c24 c25 c26 c27 c28 c29 c30 c31 c32 c33 c34 c35 c36 c37 c38 c39 c40 c41 c42 c43 c44 c45 c46 c47 c48 c49 c50 c51 c52 c53 c54 c55 c56 c57 c58 c59 c60 c61 c62 c63 c64 c65 c66 c67 c68 c69 c70 c71 c72 c73 c74 c75 c76 c77 c78 c79 c80 c81 c82 c83 c84 c85 c86 c87 c88 c89) zc0)[88]? = some q → va_at B.2.1 vwCl q H := by
    intro q h
    obtain rfl := Option.some.inj ((zws_at (sc88 rfl)).symm.trans h)
    exact hP 88 (c88, .inl (B.2.2 1, 4, .inl (fun _ => 0))) rfl
  have p89 : ∀ q : Nat × va_E, (zws (zGc B th c0 c1 c2 c3 c4 c5 c6 c7 c8 c9 c10 c11 c12 c13 c14 c15 c16 c17 c18 c19 c20 c21 c22 c23 c24 c25 c26 c27 c28 c29 c30 c31 c32 c33 c34 c35 c36 c37 c38 c39 c40 c41 c42 c43 c44 c45 c46 c47 c48 c49 c50 c51 c52 c53 c54 c55 c56 c57 c58 c59 c60 c61 c62 c63 c64 c65 c66 c67 c68 c69 c70 c71 c72 c73 c74 c75 c76 c77 c78 c79 c80 c81 c82 c83 c84 c85 c86 c87 c88 c89) zc0)[89]? = some q → va_at B.2.1 vwCl q H := by
    intro q h
    obtain rfl := Option.some.inj ((zws_at (sc89 rfl)).symm.trans h)
    exact hP 89 (c89, .inl (B.2.2 0, 10, .inl (fun i => if i < 10 then 4 else 0))) rfl
  have hall : ∀ k, k < 90 → ∀ q : Nat × va_E, (zws (zGc B th c0 c1 c2 c3 c4 c5 c6 c7 c8 c9 c10 c11 c12 c13 c14 c15 c16 c17 c18 c19 c20 c21 c22 c23 c24 c25 c26 c27 c28 c29 c30 c31 c32 c33 c34 c35 c36 c37 c38 c39 c40 c41 c42 c43 c44 c45 c46 c47 c48 c49 c50 c51 c52 c53 c54 c55 c56 c57 c58 c59 c60 c61 c62 c63 c64 c65 c66 c67 c68 c69 c70 c71 c72 c73 c74 c75 c76 c77 c78 c79 c80 c81 c82 c83 c84 c85 c86 c87 c88 c89) zc0)[k]? = some q → va_at B.2.1 vwCl q H := (lt_s (lt_s (lt_s (lt_s (lt_s (lt_s (lt_s (lt_s (lt_s (lt_s (lt_s (lt_s (lt_s (lt_s (lt_s (lt_s (lt_s (lt_s (lt_s (lt_s (lt_s (lt_s (lt_s (lt_s (lt_s (lt_s (lt_s (lt_s (lt_s (lt_s (lt_s (lt_s (lt_s (lt_s (lt_s (lt_s (lt_s (lt_s (lt_s (lt_s (lt_s (lt_s (lt_s (lt_s (lt_s (lt_s (lt_s (lt_s (lt_s (lt_s (lt_s (lt_s (lt_s (lt_s (lt_s (lt_s (lt_s (lt_s (lt_s (lt_s (lt_s (lt_s (lt_s (lt_s (lt_s (lt_s (lt_s (lt_s (lt_s (lt_s (lt_s (lt_s (lt_s (lt_s (lt_s (lt_s (lt_s (lt_s (lt_s (lt_s (lt_s (lt_s (lt_s (lt_s (lt_s (lt_s (lt_s (lt_s (lt_s (lt_s lt_0 p0) p1) p2) p3) p4) p5) p6) p7) p8) p9) p10) p11) p12) p13) p14) p15) p16) p17) p18) p19) p20) p21) p22) p23) p24) p25) p26) p27) p28) p29) p30) p31) p32) p33) p34) p35) p36) p37) p38) p39) p40) p41) p42) p43) p44) p45) p46) p47) p48) p49) p50) p51) p52) p53) p54) p55) p56) p57) p58) p59) p60) p61) p62) p63) p64) p65) p66) p67) p68) p69) p70) p71) p72) p73) p74) p75) p76) p77) p78) p79) p80) p81) p82) p83) p84) p85) p86) p87) p88) p89)
  intro k q h
  exact hall k (zws_lt h).1 q h
set_option maxRecDepth 100000 in
set_option maxHeartbeats 1000000 in
theorem zP_m0 (B : ZB) (th : Nat) (m0 m1 m2 m3 m4 m5 m6 m7 m8 m9 m10 m11 m12 m13 m14 m15 m16 m17 m18 m19 m20 m21 m22 m23 m24 m25 m26 m27 m28 m29 m30 m31 m32 m33 m34 m35 m36 m37 m38 m39 m40 : Nat) {H : Heap} (hP : va_P B.2.1 vwCl [(m0, .inr (9, [.int 0, .int 0, .ref m1, .ref m2, .ref m3, .int 0, .ref m4, .ref m5, .ref m6, .ref m7, .ref m8, .ref m9, .ref m10, .ref m11, .int 0, .ref m12, .ref m13, .ref m14, .ref m15, .ref m16, .ref m17, .ref m18, .ref m19, .ref m20, .ref m21, .ref m22, .ref m23, .ref m24, .ref m25, .ref m26, .int 0, .int 0, .ref m27, .int 0, .ref m28, .ref m29, .ref m30, .ref m31, .ref m32, .ref m33, .int 0, .ref m34, .ref m35, .ref m36, .int 0, .int 0, .ref m37, .int 0, .long 0, .int 0, .ref m38, .int 0, .long 0, .int 0, .ref m39, .ref m40, .int 0])), (m1, .inl (B.2.2 0, 100, .inl (fun _ => 0))), (m2, .inl (B.2.2 0, 10, .inl (fun _ => 0))), (m3, .inl (B.2.2 0, 10, .inl (fun _ => 0))), (m4, .inl (B.2.2 0, 4, .inl (fun _ => 0))), (m5, .inl (B.2.2 0, 4, .inl (fun _ => 0))), (m6, .inl (B.2.2 1, 4, .inl (fun _ => 0))), (m7, .inl (B.2.2 0, 4, .inl (fun _ => 0))), (m8, .inl (B.2.2 0, 4, .inl (fun _ => 0))), (m9, .inl (B.2.2 1, 4, .inl (fun _ => 0))), (m10, .inl (B.2.2 0, 40, .inl (fun _ => 0))), (m11, .inl (B.2.2 0, 4, .inl (fun _ => 0))), (m12, .inl (B.2.2 0, 4, .inl (fun _ => 0))), (m13, .inl (B.2.2 0, 4, .inl (fun _ => 0))), (m14, .inl (B.2.2 1, 4, .inl (fun _ => 0))), (m15, .inl (B.2.2 1, 4, .inl (fun _ => 0))), (m16, .inl (B.2.2 0, 10, .inl (fun _ => 0))), (m17, .inl (B.2.2 0, 10, .inl (fun _ => 0))), (m18, .inl (B.2.2 0, 10, .inl (fun _ => 0))), (m19, .inl (B.2.2 0, 10, .inl (fun _ => 0))), (m20, .inl (B.2.2 0, 10, .inl (fun _ => 0))), (m21, .inl (B.2.2 0, 100, .inl (fun _ => 0))), (m22, .inl (B.2.2 0, 10, .inl (fun _ => 0))), (m23, .inl (B.2.2 0, 10, .inl (fun _ => 0))), (m24, .inl (B.2.2 0, 10, .inl (fun _ => 0))), (m25, .inl (B.2.2 0, 10, .inl (fun _ => 0))), (m26, .inl (B.2.2 0, 100, .inl (fun _ => 0))), (m27, .inl (B.2.2 0, 10, .inl (fun _ => 0))), (m28, .inl (B.2.2 0, 6, .inl (fun _ => 0))), (m29, .inl (B.2.2 0, 24, .inl (fun _ => 0))), (m30, .inl (B.2.2 0, 24, .inl (fun _ => 0))), (m31, .inl (B.2.2 1, 24, .inl (fun _ => 0))), (m32, .inl (B.2.2 1, 24, .inl (fun _ => 0))), (m33, .inl (B.2.2 0, 60, .inl (fun _ => 0))), (m34, .inl (B.2.2 0, 256, .inl (fun _ => 0))), (m35, .inl (B.2.2 0, 10, .inl (fun _ => 0))), (m36, .inl (B.2.2 2, 256, .inr (.inl (fun _ => 0)))), (m37, .inl (B.2.2 0, 4, .inl (fun _ => 0))), (m38, .inl (B.2.2 0, 4, .inl (fun _ => 0))), (m39, .inl (B.2.2 0, 4, .inl (fun _ => 0))), (m40, .inl (B.2.2 0, 4, .inl (fun _ => 0)))] H) : va_P B.2.1 vwCl (zws (zGm B th m0 m1 m2 m3 m4 m5 m6 m7 m8 m9 m10 m11 m12 m13 m14 m15 m16 m17 m18 m19 m20 m21 m22 m23 m24 m25 m26 m27 m28 m29 m30 m31 m32 m33 m34 m35 m36 m37 m38 m39 m40) zm0) H := by
  have p0 : ∀ q : Nat × va_E, (zws (zGm B th m0 m1 m2 m3 m4 m5 m6 m7 m8 m9 m10 m11 m12 m13 m14 m15 m16 m17 m18 m19 m20 m21 m22 m23 m24 m25 m26 m27 m28 m29 m30 m31 m32 m33 m34 m35 m36 m37 m38 m39 m40) zm0)[0]? = some q → va_at B.2.1 vwCl q H := by
    intro q h
    obtain rfl := Option.some.inj ((zws_at (sm0 rfl)).symm.trans h)
    rw [zobj_eq]
    exact hP 0 (m0, .inr (9, [.int 0, .int 0, .ref m1, .ref m2, .ref m3, .int 0, .ref m4, .ref m5, .ref m6, .ref m7, .ref m8, .ref m9, .ref m10, .ref m11, .int 0, .ref m12, .ref m13, .ref m14, .ref m15, .ref m16, .ref m17, .ref m18, .ref m19, .ref m20, .ref m21, .ref m22, .ref m23, .ref m24, .ref m25, .ref m26, .int 0, .int 0, .ref m27, .int 0, .ref m28, .ref m29, .ref m30, .ref m31, .ref m32, .ref m33, .int 0, .ref m34, .ref m35, .ref m36, .int 0, .int 0, .ref m37, .int 0, .long 0, .int 0, .ref m38, .int 0, .long 0, .int 0, .ref m39, .ref m40, .int 0])) rfl
  have p1 : ∀ q : Nat × va_E, (zws (zGm B th m0 m1 m2 m3 m4 m5 m6 m7 m8 m9 m10 m11 m12 m13 m14 m15 m16 m17 m18 m19 m20 m21 m22 m23 m24 m25 m26 m27 m28 m29 m30 m31 m32 m33 m34 m35 m36 m37 m38 m39 m40) zm0)[1]? = some q → va_at B.2.1 vwCl q H := by
    intro q h
    obtain rfl := Option.some.inj ((zws_at (sm1 rfl)).symm.trans h)
    exact hP 1 (m1, .inl (B.2.2 0, 100, .inl (fun _ => 0))) rfl
  have p2 : ∀ q : Nat × va_E, (zws (zGm B th m0 m1 m2 m3 m4 m5 m6 m7 m8 m9 m10 m11 m12 m13 m14 m15 m16 m17 m18 m19 m20 m21 m22 m23 m24 m25 m26 m27 m28 m29 m30 m31 m32 m33 m34 m35 m36 m37 m38 m39 m40) zm0)[2]? = some q → va_at B.2.1 vwCl q H := by
    intro q h
    obtain rfl := Option.some.inj ((zws_at (sm2 rfl)).symm.trans h)
    exact hP 2 (m2, .inl (B.2.2 0, 10, .inl (fun _ => 0))) rfl
  have p3 : ∀ q : Nat × va_E, (zws (zGm B th m0 m1 m2 m3 m4 m5 m6 m7 m8 m9 m10 m11 m12 m13 m14 m15 m16 m17 m18 m19 m20 m21 m22 m23 m24 m25 m26 m27 m28 m29 m30 m31 m32 m33 m34 m35 m36 m37 m38 m39 m40) zm0)[3]? = some q → va_at B.2.1 vwCl q H := by
    intro q h
    obtain rfl := Option.some.inj ((zws_at (sm3 rfl)).symm.trans h)
    exact hP 3 (m3, .inl (B.2.2 0, 10, .inl (fun _ => 0))) rfl
  have p4 : ∀ q : Nat × va_E, (zws (zGm B th m0 m1 m2 m3 m4 m5 m6 m7 m8 m9 m10 m11 m12 m13 m14 m15 m16 m17 m18 m19 m20 m21 m22 m23 m24 m25 m26 m27 m28 m29 m30 m31 m32 m33 m34 m35 m36 m37 m38 m39 m40) zm0)[4]? = some q → va_at B.2.1 vwCl q H := by
    intro q h
    obtain rfl := Option.some.inj ((zws_at (sm4 rfl)).symm.trans h)
    exact hP 4 (m4, .inl (B.2.2 0, 4, .inl (fun _ => 0))) rfl
  have p5 : ∀ q : Nat × va_E, (zws (zGm B th m0 m1 m2 m3 m4 m5 m6 m7 m8 m9 m10 m11 m12 m13 m14 m15 m16 m17 m18 m19 m20 m21 m22 m23 m24 m25 m26 m27 m28 m29 m30 m31 m32 m33 m34 m35 m36 m37 m38 m39 m40) zm0)[5]? = some q → va_at B.2.1 vwCl q H := by
    intro q h
    obtain rfl := Option.some.inj ((zws_at (sm5 rfl)).symm.trans h)
    exact hP 5 (m5, .inl (B.2.2 0, 4, .inl (fun _ => 0))) rfl
  have p6 : ∀ q : Nat × va_E, (zws (zGm B th m0 m1 m2 m3 m4 m5 m6 m7 m8 m9 m10 m11 m12 m13 m14 m15 m16 m17 m18 m19 m20 m21 m22 m23 m24 m25 m26 m27 m28 m29 m30 m31 m32 m33 m34 m35 m36 m37 m38 m39 m40) zm0)[6]? = some q → va_at B.2.1 vwCl q H := by
    intro q h
    obtain rfl := Option.some.inj ((zws_at (sm6 rfl)).symm.trans h)
    exact hP 6 (m6, .inl (B.2.2 1, 4, .inl (fun _ => 0))) rfl
  have p7 : ∀ q : Nat × va_E, (zws (zGm B th m0 m1 m2 m3 m4 m5 m6 m7 m8 m9 m10 m11 m12 m13 m14 m15 m16 m17 m18 m19 m20 m21 m22 m23 m24 m25 m26 m27 m28 m29 m30 m31 m32 m33 m34 m35 m36 m37 m38 m39 m40) zm0)[7]? = some q → va_at B.2.1 vwCl q H := by
    intro q h
    obtain rfl := Option.some.inj ((zws_at (sm7 rfl)).symm.trans h)
    exact hP 7 (m7, .inl (B.2.2 0, 4, .inl (fun _ => 0))) rfl
  have p8 : ∀ q : Nat × va_E, (zws (zGm B th m0 m1 m2 m3 m4 m5 m6 m7 m8 m9 m10 m11 m12 m13 m14 m15 m16 m17 m18 m19 m20 m21 m22 m23 m24 m25 m26 m27 m28 m29 m30 m31 m32 m33 m34 m35 m36 m37 m38 m39 m40) zm0)[8]? = some q → va_at B.2.1 vwCl q H := by
    intro q h
    obtain rfl := Option.some.inj ((zws_at (sm8 rfl)).symm.trans h)
    exact hP 8 (m8, .inl (B.2.2 0, 4, .inl (fun _ => 0))) rfl
  have p9 : ∀ q : Nat × va_E, (zws (zGm B th m0 m1 m2 m3 m4 m5 m6 m7 m8 m9 m10 m11 m12 m13 m14 m15 m16 m17 m18 m19 m20 m21 m22 m23 m24 m25 m26 m27 m28 m29 m30 m31 m32 m33 m34 m35 m36 m37 m38 m39 m40) zm0)[9]? = some q → va_at B.2.1 vwCl q H := by
    intro q h
    obtain rfl := Option.some.inj ((zws_at (sm9 rfl)).symm.trans h)
    exact hP 9 (m9, .inl (B.2.2 1, 4, .inl (fun _ => 0))) rfl
  have p10 : ∀ q : Nat × va_E, (zws (zGm B th m0 m1 m2 m3 m4 m5 m6 m7 m8 m9 m10 m11 m12 m13 m14 m15 m16 m17 m18 m19 m20 m21 m22 m23 m24 m25 m26 m27 m28 m29 m30 m31 m32 m33 m34 m35 m36 m37 m38 m39 m40) zm0)[10]? = some q → va_at B.2.1 vwCl q H := by
    intro q h
    obtain rfl := Option.some.inj ((zws_at (sm10 rfl)).symm.trans h)
    exact hP 10 (m10, .inl (B.2.2 0, 40, .inl (fun _ => 0))) rfl
  have p11 : ∀ q : Nat × va_E, (zws (zGm B th m0 m1 m2 m3 m4 m5 m6 m7 m8 m9 m10 m11 m12 m13 m14 m15 m16 m17 m18 m19 m20 m21 m22 m23 m24 m25 m26 m27 m28 m29 m30 m31 m32 m33 m34 m35 m36 m37 m38 m39 m40) zm0)[11]? = some q → va_at B.2.1 vwCl q H := by
    intro q h
    obtain rfl := Option.some.inj ((zws_at (sm11 rfl)).symm.trans h)
    exact hP 11 (m11, .inl (B.2.2 0, 4, .inl (fun _ => 0))) rfl
  have p12 : ∀ q : Nat × va_E, (zws (zGm B th m0 m1 m2 m3 m4 m5 m6 m7 m8 m9 m10 m11 m12 m13 m14 m15 m16 m17 m18 m19 m20 m21 m22 m23 m24 m25 m26 m27 m28 m29 m30 m31 m32 m33 m34 m35 m36 m37 m38 m39 m40) zm0)[12]? = some q → va_at B.2.1 vwCl q H := by
    intro q h
    obtain rfl := Option.some.inj ((zws_at (sm12 rfl)).symm.trans h)
    exact hP 12 (m12, .inl (B.2.2 0, 4, .inl (fun _ => 0))) rfl
  have p13 : ∀ q : Nat × va_E, (zws (zGm B th m0 m1 m2 m3 m4 m5 m6 m7 m8 m9 m10 m11 m12 m13 m14 m15 m16 m17 m18 m19 m20 m21 m22 m23 m24 m25 m26 m27 m28 m29 m30 m31 m32 m33 m34 m35 m36 m37 m38 m39 m40) zm0)[13]? = some q → va_at B.2.1 vwCl q H := by
    intro q h
    obtain rfl := Option.some.inj ((zws_at (sm13 rfl)).symm.trans h)
    exact hP 13 (m13, .inl (B.2.2 0, 4, .inl (fun _ => 0))) rfl
  have p14 : ∀ q : Nat × va_E, (zws (zGm B th m0 m1 m2 m3 m4 m5 m6 m7 m8 m9 m10 m11 m12 m13 m14 m15 m16 m17 m18 m19 m20 m21 m22 m23 m24 m25 m26 m27 m28 m29 m30 m31 m32 m33 m34 m35 m36 m37 m38 m39 m40) zm0)[14]? = some q → va_at B.2.1 vwCl q H := by
    intro q h
    obtain rfl := Option.some.inj ((zws_at (sm14 rfl)).symm.trans h)
    exact hP 14 (m14, .inl (B.2.2 1, 4, .inl (fun _ => 0))) rfl
  have p15 : ∀ q : Nat × va_E, (zws (zGm B th m0 m1 m2 m3 m4 m5 m6 m7 m8 m9 m10 m11 m12 m13 m14 m15 m16 m17 m18 m19 m20 m21 m22 m23 m24 m25 m26 m27 m28 m29 m30 m31 m32 m33 m34 m35 m36 m37 m38 m39 m40) zm0)[15]? = some q → va_at B.2.1 vwCl q H := by
    intro q h
    obtain rfl := Option.some.inj ((zws_at (sm15 rfl)).symm.trans h)
    exact hP 15 (m15, .inl (B.2.2 1, 4, .inl (fun _ => 0))) rfl
  have p16 : ∀ q : Nat × va_E, (zws (zGm B th m0 m1 m2 m3 m4 m5 m6 m7 m8 m9 m10 m11 m12 m13 m14 m15 m16 m17 m18 m19 m20 m21 m22 m23 m24 m25 m26 m27 m28 m29 m30 m31 m32 m33 m34 m35 m36 m37 m38 m39 m40) zm0)[16]? = some q → va_at B.2.1 vwCl q H := by
    intro q h
    obtain rfl := Option.some.inj ((zws_at (sm16 rfl)).symm.trans h)
    exact hP 16 (m16, .inl (B.2.2 0, 10, .inl (fun _ => 0))) rfl
  have p17 : ∀ q : Nat × va_E, (zws (zGm B th m0 m1 m2 m3 m4 m5 m6 m7 m8 m9 m10 m11 m12 m13 m14 m15 m16 m17 m18 m19 m20 m21 m22 m23 m24 m25 m26 m27 m28 m29 m30 m31 m32 m33 m34 m35 m36 m37 m38 m39 m40) zm0)[17]? = some q → va_at B.2.1 vwCl q H := by
    intro q h
    obtain rfl := Option.some.inj ((zws_at (sm17 rfl)).symm.trans h)
    exact hP 17 (m17, .inl (B.2.2 0, 10, .inl (fun _ => 0))) rfl
  have p18 : ∀ q : Nat × va_E, (zws (zGm B th m0 m1 m2 m3 m4 m5 m6 m7 m8 m9 m10 m11 m12 m13 m14 m15 m16 m17 m18 m19 m20 m21 m22 m23 m24 m25 m26 m27 m28 m29 m30 m31 m32 m33 m34 m35 m36 m37 m38 m39 m40) zm0)[18]? = some q → va_at B.2.1 vwCl q H := by
    intro q h
    obtain rfl := Option.some.inj ((zws_at (sm18 rfl)).symm.trans h)
    exact hP 18 (m18, .inl (B.2.2 0, 10, .inl (fun _ => 0))) rfl
  have p19 : ∀ q : Nat × va_E, (zws (zGm B th m0 m1 m2 m3 m4 m5 m6 m7 m8 m9 m10 m11 m12 m13 m14 m15 m16 m17 m18 m19 m20 m21 m22 m23 m24 m25 m26 m27 m28 m29 m30 m31 m32 m33 m34 m35 m36 m37 m38 m39 m40) zm0)[19]? = some q → va_at B.2.1 vwCl q H := by
    intro q h
    obtain rfl := Option.some.inj ((zws_at (sm19 rfl)).symm.trans h)
    exact hP 19 (m19, .inl (B.2.2 0, 10, .inl (fun _ => 0))) rfl
  have p20 : ∀ q : Nat × va_E, (zws (zGm B th m0 m1 m2 m3 m4 m5 m6 m7 m8 m9 m10 m11 m12 m13 m14 m15 m16 m17 m18 m19 m20 m21 m22 m23 m24 m25 m26 m27 m28 m29 m30 m31 m32 m33 m34 m35 m36 m37 m38 m39 m40) zm0)[20]? = some q → va_at B.2.1 vwCl q H := by
    intro q h
    obtain rfl := Option.some.inj ((zws_at (sm20 rfl)).symm.trans h)
    exact hP 20 (m20, .inl (B.2.2 0, 10, .inl (fun _ => 0))) rfl
  have p21 : ∀ q : Nat × va_E, (zws (zGm B th m0 m1 m2 m3 m4 m5 m6 m7 m8 m9 m10 m11 m12 m13 m14 m15 m16 m17 m18 m19 m20 m21 m22 m23 m24 m25 m26 m27 m28 m29 m30 m31 m32 m33 m34 m35 m36 m37 m38 m39 m40) zm0)[21]? = some q → va_at B.2.1 vwCl q H := by
    intro q h
    obtain rfl := Option.some.inj ((zws_at (sm21 rfl)).symm.trans h)
    exact hP 21 (m21, .inl (B.2.2 0, 100, .inl (fun _ => 0))) rfl
  have p22 : ∀ q : Nat × va_E, (zws (zGm B th m0 m1 m2 m3 m4 m5 m6 m7 m8 m9 m10 m11 m12 m13 m14 m15 m16 m17 m18 m19 m20 m21 m22 m23 m24 m25 m26 m27 m28 m29 m30 m31 m32 m33 m34 m35 m36 m37 m38 m39 m40) zm0)[22]? = some q → va_at B.2.1 vwCl q H := by
    intro q h
    obtain rfl := Option.some.inj ((zws_at (sm22 rfl)).symm.trans h)
    exact hP 22 (m22, .inl (B.2.2 0, 10, .inl (fun _ => 0))) rfl
  have p23 : ∀ q : Nat × va_E, (zws (zGm B th m0 m1 m2 m3 m4 m5 m6 m7 m8 m9 m10 m11 m12 m13 m14 m15 m16 m17 m18 m19 m20 m21 m22 m23 m24 m25 m26 m27 m28 m29 m30 m31 m32 m33 m34 m35 m36 m37 m38 m39 m40) zm0)[23]? = some q → va_at B.2.1 vwCl q H := by
    intro q h
    obtain rfl := Option.some.inj ((zws_at (sm23 rfl)).symm.trans h)
    exact hP 23 (m23, .inl (B.2.2 0, 10, .inl (fun _ => 0))) rfl
  have p24 : ∀ q : Nat × va_E, (zws (zGm B th m0 m1 m2 m3 m4 m5 m6 m7 m8 m9 m10 m11 m12 m13 m14 m15 m16 m17 m18 m19 m20 m21 m22 m23 m24 m25 m26 m27 m28 m29 m30 m31 m32 m33 m34 m35 m36 m37 m38 m39 m40) zm0)[24]? = some q → va_at B.2.1 vwCl q H := by
    intro q h
    obtain rfl := Option.some.inj ((zws_at (sm24 rfl)).symm.trans h)
    exact hP 24 (m24, .inl (B.2.2 0, 10, .inl (fun _ => 0))) rfl
  have p25 : ∀ q : Nat × va_E, (zws (zGm B th m0 m1 m2 m3 m4 m5 m6 m7 m8 m9 m10 m11 m12 m13 m14 m15 m16 m17 m18 m19 m20 m21 m22 m23 m24 m25 m26 m27 m28 m29 m30 m31 m32 m33 m34 m35 m36 m37 m38 m39 m40) zm0)[25]? = some q → va_at B.2.1 vwCl q H := by
    intro q h
    obtain rfl := Option.some.inj ((zws_at (sm25 rfl)).symm.trans h)
    exact hP 25 (m25, .inl (B.2.2 0, 10, .inl (fun _ => 0))) rfl
  have p26 : ∀ q : Nat × va_E, (zws (zGm B th m0 m1 m2 m3 m4 m5 m6 m7 m8 m9 m10 m11 m12 m13 m14 m15 m16 m17 m18 m19 m20 m21 m22 m23 m24 m25 m26 m27 m28 m29 m30 m31 m32 m33 m34 m35 m36 m37 m38 m39 m40) zm0)[26]? = some q → va_at B.2.1 vwCl q H := by
    intro q h
    obtain rfl := Option.some.inj ((zws_at (sm26 rfl)).symm.trans h)
    exact hP 26 (m26, .inl (B.2.2 0, 100, .inl (fun _ => 0))) rfl
  have p27 : ∀ q : Nat × va_E, (zws (zGm B th m0 m1 m2 m3 m4 m5 m6 m7 m8 m9 m10 m11 m12 m13 m14 m15 m16 m17 m18 m19 m20 m21 m22 m23 m24 m25 m26 m27 m28 m29 m30 m31 m32 m33 m34 m35 m36 m37 m38 m39 m40) zm0)[27]? = some q → va_at B.2.1 vwCl q H := by
    intro q h
    obtain rfl := Option.some.inj ((zws_at (sm27 rfl)).symm.trans h)
    exact hP 27 (m27, .inl (B.2.2 0, 10, .inl (fun _ => 0))) rfl
  have p28 : ∀ q : Nat × va_E, (zws (zGm B th m0 m1 m2 m3 m4 m5 m6 m7 m8 m9 m10 m11 m12 m13 m14 m15 m16 m17 m18 m19 m20 m21 m22 m23 m24 m25 m26 m27 m28 m29 m30 m31 m32 m33 m34 m35 m36 m37 m38 m39 m40) zm0)[28]? = some q → va_at B.2.1 vwCl q H := by
    intro q h
    obtain rfl := Option.some.inj ((zws_at (sm28 rfl)).symm.trans h)
    exact hP 28 (m28, .inl (B.2.2 0, 6, .inl (fun _ => 0))) rfl
  have p29 : ∀ q : Nat × va_E, (zws (zGm B th m0 m1 m2 m3 m4 m5 m6 m7 m8 m9 m10 m11 m12 m13 m14 m15 m16 m17 m18 m19 m20 m21 m22 m23 m24 m25 m26 m27 m28 m29 m30 m31 m32 m33 m34 m35 m36 m37 m38 m39 m40) zm0)[29]? = some q → va_at B.2.1 vwCl q H := by
    intro q h
    obtain rfl := Option.some.inj ((zws_at (sm29 rfl)).symm.trans h)
    exact hP 29 (m29, .inl (B.2.2 0, 24, .inl (fun _ => 0))) rfl
  have p30 : ∀ q : Nat × va_E, (zws (zGm B th m0 m1 m2 m3 m4 m5 m6 m7 m8 m9 m10 m11 m12 m13 m14 m15 m16 m17 m18 m19 m20 m21 m22 m23 m24 m25 m26 m27 m28 m29 m30 m31 m32 m33 m34 m35 m36 m37 m38 m39 m40) zm0)[30]? = some q → va_at B.2.1 vwCl q H := by
    intro q h
    obtain rfl := Option.some.inj ((zws_at (sm30 rfl)).symm.trans h)
    exact hP 30 (m30, .inl (B.2.2 0, 24, .inl (fun _ => 0))) rfl
  have p31 : ∀ q : Nat × va_E, (zws (zGm B th m0 m1 m2 m3 m4 m5 m6 m7 m8 m9 m10 m11 m12 m13 m14 m15 m16 m17 m18 m19 m20 m21 m22 m23 m24 m25 m26 m27 m28 m29 m30 m31 m32 m33 m34 m35 m36 m37 m38 m39 m40) zm0)[31]? = some q → va_at B.2.1 vwCl q H := by
    intro q h
    obtain rfl := Option.some.inj ((zws_at (sm31 rfl)).symm.trans h)
    exact hP 31 (m31, .inl (B.2.2 1, 24, .inl (fun _ => 0))) rfl
  have p32 : ∀ q : Nat × va_E, (zws (zGm B th m0 m1 m2 m3 m4 m5 m6 m7 m8 m9 m10 m11 m12 m13 m14 m15 m16 m17 m18 m19 m20 m21 m22 m23 m24 m25 m26 m27 m28 m29 m30 m31 m32 m33 m34 m35 m36 m37 m38 m39 m40) zm0)[32]? = some q → va_at B.2.1 vwCl q H := by
    intro q h
    obtain rfl := Option.some.inj ((zws_at (sm32 rfl)).symm.trans h)
    exact hP 32 (m32, .inl (B.2.2 1, 24, .inl (fun _ => 0))) rfl
  have p33 : ∀ q : Nat × va_E, (zws (zGm B th m0 m1 m2 m3 m4 m5 m6 m7 m8 m9 m10 m11 m12 m13 m14 m15 m16 m17 m18 m19 m20 m21 m22 m23 m24 m25 m26 m27 m28 m29 m30 m31 m32 m33 m34 m35 m36 m37 m38 m39 m40) zm0)[33]? = some q → va_at B.2.1 vwCl q H := by
    intro q h
    obtain rfl := Option.some.inj ((zws_at (sm33 rfl)).symm.trans h)
    exact hP 33 (m33, .inl (B.2.2 0, 60, .inl (fun _ => 0))) rfl
  have p34 : ∀ q : Nat × va_E, (zws (zGm B th m0 m1 m2 m3 m4 m5 m6 m7 m8 m9 m10 m11 m12 m13 m14 m15 m16 m17 m18 m19 m20 m21 m22 m23 m24 m25 m26 m27 m28 m29 m30 m31 m32 m33 m34 m35 m36 m37 m38 m39 m40) zm0)[34]? = some q → va_at B.2.1 vwCl q H := by
    intro q h
    obtain rfl := Option.some.inj ((zws_at (sm34 rfl)).symm.trans h)
    exact hP 34 (m34, .inl (B.2.2 0, 256, .inl (fun _ => 0))) rfl
  have p35 : ∀ q : Nat × va_E, (zws (zGm B th m0 m1 m2 m3 m4 m5 m6 m7 m8 m9 m10 m11 m12 m13 m14 m15 m16 m17 m18 m19 m20 m21 m22 m23 m24 m25 m26 m27 m28 m29 m30 m31 m32 m33 m34 m35 m36 m37 m38 m39 m40) zm0)[35]? = some q → va_at B.2.1 vwCl q H := by
    intro q h
    obtain rfl := Option.some.inj ((zws_at (sm35 rfl)).symm.trans h)
    exact hP 35 (m35, .inl (B.2.2 0, 10, .inl (fun _ => 0))) rfl
  have p36 : ∀ q : Nat × va_E, (zws (zGm B th m0 m1 m2 m3 m4 m5 m6 m7 m8 m9 m10 m11 m12 m13 m14 m15 m16 m17 m18 m19 m20 m21 m22 m23 m24 m25 m26 m27 m28 m29 m30 m31 m32 m33 m34 m35 m36 m37 m38 m39 m40) zm0)[36]? = some q → va_at B.2.1 vwCl q H := by
    intro q h
    obtain rfl := Option.some.inj ((zws_at (sm36 rfl)).symm.trans h)
    exact hP 36 (m36, .inl (B.2.2 2, 256, .inr (.inl (fun _ => 0)))) rfl
  have p37 : ∀ q : Nat × va_E, (zws (zGm B th m0 m1 m2 m3 m4 m5 m6 m7 m8 m9 m10 m11 m12 m13 m14 m15 m16 m17 m18 m19 m20 m21 m22 m23 m24 m25 m26 m27 m28 m29 m30 m31 m32 m33 m34 m35 m36 m37 m38 m39 m40) zm0)[37]? = some q → va_at B.2.1 vwCl q H := by
    intro q h
    obtain rfl := Option.some.inj ((zws_at (sm37 rfl)).symm.trans h)
    exact hP 37 (m37, .inl (B.2.2 0, 4, .inl (fun _ => 0))) rfl
  have p38 : ∀ q : Nat × va_E, (zws (zGm B th m0 m1 m2 m3 m4 m5 m6 m7 m8 m9 m10 m11 m12 m13 m14 m15 m16 m17 m18 m19 m20 m21 m22 m23 m24 m25 m26 m27 m28 m29 m30 m31 m32 m33 m34 m35 m36 m37 m38 m39 m40) zm0)[38]? = some q → va_at B.2.1 vwCl q H := by
    intro q h
    obtain rfl := Option.some.inj ((zws_at (sm38 rfl)).symm.trans h)
    exact hP 38 (m38, .inl (B.2.2 0, 4, .inl (fun _ => 0))) rfl
  have p39 : ∀ q : Nat × va_E, (zws (zGm B th m0 m1 m2 m3 m4 m5 m6 m7 m8 m9 m10 m11 m12 m13 m14 m15 m16 m17 m18 m19 m20 m21 m22 m23 m24 m25 m26 m27 m28 m29 m30 m31 m32 m33 m34 m35 m36 m37 m38 m39 m40) zm0)[39]? = some q → va_at B.2.1 vwCl q H := by
    intro q h
    obtain rfl := Option.some.inj ((zws_at (sm39 rfl)).symm.trans h)
    exact hP 39 (m39, .inl (B.2.2 0, 4, .inl (fun _ => 0))) rfl
  have p40 : ∀ q : Nat × va_E, (zws (zGm B th m0 m1 m2 m3 m4 m5 m6 m7 m8 m9 m10 m11 m12 m13 m14 m15 m16 m17 m18 m19 m20 m21 m22 m23 m24 m25 m26 m27 m28 m29 m30 m31 m32 m33 m34 m35 m36 m37 m38 m39 m40) zm0)[40]? = some q → va_at B.2.1 vwCl q H := by
    intro q h
    obtain rfl := Option.some.inj ((zws_at (sm40 rfl)).symm.trans h)
    exact hP 40 (m40, .inl (B.2.2 0, 4, .inl (fun _ => 0))) rfl
  have hall : ∀ k, k < 41 → ∀ q : Nat × va_E, (zws (zGm B th m0 m1 m2 m3 m4 m5 m6 m7 m8 m9 m10 m11 m12 m13 m14 m15 m16 m17 m18 m19 m20 m21 m22 m23 m24 m25 m26 m27 m28 m29 m30 m31 m32 m33 m34 m35 m36 m37 m38 m39 m40) zm0)[k]? = some q → va_at B.2.1 vwCl q H := (lt_s (lt_s (lt_s (lt_s (lt_s (lt_s (lt_s (lt_s (lt_s (lt_s (lt_s (lt_s (lt_s (lt_s (lt_s (lt_s (lt_s (lt_s (lt_s (lt_s (lt_s (lt_s (lt_s (lt_s (lt_s (lt_s (lt_s (lt_s (lt_s (lt_s (lt_s (lt_s (lt_s (lt_s (lt_s (lt_s (lt_s (lt_s (lt_s (lt_s (lt_s lt_0 p0) p1) p2) p3) p4) p5) p6) p7) p8) p9) p10) p11) p12) p13) p14) p15) p16) p17) p18) p19) p20) p21) p22) p23) p24) p25) p26) p27) p28) p29) p30) p31) p32) p33) p34) p35) p36) p37) p38) p39) p40)
  intro k q h
  exact hall k (zws_lt h).1 q h
theorem zfst {ws : va_W} {l : List Nat} (h : ws.map Prod.fst = l) {i a : Nat} (hi : l[i]? = some a) : ∃ e, ws[i]? = some (a, e) := by
  rw [← h, List.getElem?_map] at hi
  cases hw : ws[i]? with
  | none => rw [hw] at hi; cases hi
  | some x => rw [hw] at hi; exact ⟨x.2, by cases hi; rfl⟩
theorem zsplit2 {Gc Gm : ZG} {A : Nat → Prop} {ws : va_W} {lc lm : List Nat} (h : va_D A ws) (hf : ws.map Prod.fst = lc ++ lm) (nc : lc.length = (zSH Gc).length) (nm : lm.length = (zSH Gm).length) (ac : ∀ k, zad Gc k = lc.getD k 0) (am : ∀ k, zad Gm k = lm.getD k 0) : zinj Gc ∧ zinj Gm ∧ (∀ q, zreg Gc q → ¬ zreg Gm q) ∧ (∀ q, zreg Gc q → A q) ∧ (∀ q, zreg Gm q → A q) := by
  have hc : ∀ i, i < (zSH Gc).length → ∃ e, ws[i]? = some (zad Gc i, e) := by
    intro i hi
    refine zfst hf ?_
    rw [List.getElem?_append_left (by omega), ac, List.getElem?_eq_getElem (by omega), List.getD_eq_getElem?_getD, List.getElem?_eq_getElem (by omega)]
    rfl
  have hm : ∀ i, i < (zSH Gm).length → ∃ e, ws[(zSH Gc).length + i]? = some (zad Gm i, e) := by
    intro i hi
    refine zfst hf ?_
    rw [List.getElem?_append_right (by omega), nc, Nat.add_sub_cancel_left, am, List.getElem?_eq_getElem (by omega), List.getD_eq_getElem?_getD, List.getElem?_eq_getElem (by omega)]
    rfl
  refine ⟨fun i j hi hj e => ?_, fun i j hi hj e => ?_, ?_, ?_, ?_⟩
  · obtain ⟨x, hx⟩ := hc i hi
    obtain ⟨y, hy⟩ := hc j hj
    exact h.1 i j _ _ hx hy e
  · obtain ⟨x, hx⟩ := hm i hi
    obtain ⟨y, hy⟩ := hm j hj
    have := h.1 _ _ _ _ hx hy e
    omega
  · rintro q ⟨i, hi, rfl⟩ ⟨j, hj, e⟩
    obtain ⟨x, hx⟩ := hc i hi
    obtain ⟨y, hy⟩ := hm j hj
    have := h.1 _ _ _ _ hx hy e
    omega
  · rintro q ⟨i, hi, rfl⟩
    obtain ⟨x, hx⟩ := hc i hi
    exact h.2 _ _ hx
  · rintro q ⟨i, hi, rfl⟩
    obtain ⟨x, hx⟩ := hm i hi
    exact h.2 _ _ hx
