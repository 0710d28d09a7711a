/-! ===== the memory at the start ===== -/
def zc0 : ZM := (fun k => match k with
  | 10 => fun i => if i < 4 then (-1) else 0
  | 54 => fun i => if i < 10 then 4 else 0
  | 61 => fun i => if i < 10 then 4 else 0
  | 68 => fun i => if i < 10 then 4 else 0
  | 75 => fun i => if i < 10 then 4 else 0
  | 82 => fun i => if i < 10 then 4 else 0
  | 89 => fun i => if i < 10 then 4 else 0
  | 23 => fun i => if i = 14 then 1 else 0
  | 38 => fun i => if i = 15 then 1 else 0
  | _ => fun _ => 0, fun _ _ => 0)
def zm0 : ZM := (fun _ _ => 0, fun _ _ => 0)
set_option maxRecDepth 100000 in
set_option maxHeartbeats 4000000 in
theorem zrow_tr (c0 c1 c2 c3 c4 c5 c6 c7 c8 c9 c10 c11 c12 c13 c14 c15 c16 c17 c18 c19 c20 c21 c22 c23 c24 c25 c26 c27 c28 c29 c30 c31 c32 c33 c34 c35 c36 c37 c38 c39 c40 c41 c42 c43 c44 c45 c46 c47 c48 c49 c50 c51 c52 c53 c54 c55 c56 c57 c58 c59 c60 c61 c62 c63 c64 c65 c66 c67 c68 c69 c70 c71 c72 c73 c74 c75 c76 c77 c78 c79 c80 c81 c82 c83 c84 c85 c86 c87 c88 c89 : Nat) : (va_up (va_up (va_up (va_up (va_up (va_up (fun _ => none) 0 (some c48)) 1 (some c55)) 2 (some c62)) 3 (some c69)) 4 (some c76)) 5 (some c83)) = fun i => (([48, 55, 62, 69, 76, 83] : List Nat)[i]?).map (fun k => [c0, c1, c2, c3, c4, c5, c6, c7, c8, c9, c10, c11, c12, c13, c14, c15, c16, c17, c18, c19, c20, c21, c22, c23, c24, c25, c26, c27, c28, c29, c30, c31, c32, c33, c34, c35, c36, c37, c38, c39, c40, c41, c42, c43, c44, c45, c46, c47, c48, c49, c50, c51, c52, c53, c54, c55, c56, c57, c58, c59, c60, c61, c62, c63, c64, c65, c66, c67, c68, c69, c70, c71, c72, c73, c74, c75, c76, c77, c78, c79, c80, c81, c82, c83, c84, c85, c86, c87, c88, c89].getD k 0) := by
  funext i
  rcases (show i = 0 ∨ i = 1 ∨ i = 2 ∨ i = 3 ∨ i = 4 ∨ i = 5 ∨ 6 ≤ i by omega) with rfl | rfl | rfl | rfl | rfl | rfl | h
  · rfl
  · rfl
  · rfl
  · rfl
  · rfl
  · rfl
  · rw [List.getElem?_eq_none (by simpa using h)]
    simp only [va_up, Option.map_none]
    repeat rw [if_neg (by omega)]
abbrev zGc (B : ZB) (th : Nat) (c0 c1 c2 c3 c4 c5 c6 c7 c8 c9 c10 c11 c12 c13 c14 c15 c16 c17 c18 c19 c20 c21 c22 c23 c24 c25 c26 c27 c28 c29 c30 c31 c32 c33 c34 c35 c36 c37 c38 c39 c40 c41 c42 c43 c44 c45 c46 c47 c48 c49 c50 c51 c52 c53 c54 c55 c56 c57 c58 c59 c60 c61 c62 c63 c64 c65 c66 c67 c68 c69 c70 c71 c72 c73 c74 c75 c76 c77 c78 c79 c80 c81 c82 c83 c84 c85 c86 c87 c88 c89 : Nat) : ZG := (B.1, B.2.1, (fun k => [c0, c1, c2, c3, c4, c5, c6, c7, c8, c9, c10, c11, c12, c13, c14, c15, c16, c17, c18, c19, c20, c21, c22, c23, c24, c25, c26, c27, c28, c29, c30, c31, c32, c33, c34, c35, c36, c37, c38, c39, c40, c41, c42, c43, c44, c45, c46, c47, c48, c49, c50, c51, c52, c53, c54, c55, c56, c57, c58, c59, c60, c61, c62, c63, c64, c65, c66, c67, c68, c69, c70, c71, c72, c73, c74, c75, c76, c77, c78, c79, c80, c81, c82, c83, c84, c85, c86, c87, c88, c89].getD k 0), B.2.2, shC, th)
abbrev zGm (B : ZB) (th : Nat) (m0 m1 m2 m3 m4 m5 m6 m7 m8 m9 m10 m11 m12 m13 m14 m15 m16 m17 m18 m19 m20 m21 m22 m23 m24 m25 m26 m27 m28 m29 m30 m31 m32 m33 m34 m35 m36 m37 m38 m39 m40 : Nat) : ZG := (B.1, B.2.1, (fun k => [m0, m1, m2, m3, m4, m5, m6, m7, m8, m9, m10, m11, m12, m13, m14, m15, m16, m17, m18, m19, m20, m21, m22, m23, m24, m25, m26, m27, m28, m29, m30, m31, m32, m33, m34, m35, m36, m37, m38, m39, m40].getD k 0), B.2.2, shM, th)
set_option maxRecDepth 100000 in
set_option maxHeartbeats 4000000 in
theorem zP_c0 (B : ZB) (th : Nat) (c0 c1 c2 c3 c4 c5 c6 c7 c8 c9 c10 c11 c12 c13 c14 c15 c16 c17 c18 c19 c20 c21 c22 c23 c24 c25 c26 c27 c28 c29 c30 c31 c32 c33 c34 c35 c36 c37 c38 c39 c40 c41 c42 c43 c44 c45 c46 c47 c48 c49 c50 c51 c52 c53 c54 c55 c56 c57 c58 c59 c60 c61 c62 c63 c64 c65 c66 c67 c68 c69 c70 c71 c72 c73 c74 c75 c76 c77 c78 c79 c80 c81 c82 c83 c84 c85 c86 c87 c88 c89 : Nat) {H : Heap} (hP : va_P B.2.1 vwCl [(c0, .inr (8, [.ref c1, .ref c7, .ref c12, .ref c17, .ref c23, .ref c34, .ref c38])), (c1, .inr (3, [.int 0, .int 0, .ref c2, .ref c3, .ref c4, .ref c5, .ref c6])), (c2, .inl (B.2.2 0, 10, .inl (fun _ => 0))), (c3, .inl (B.2.2 0, 10, .inl (fun _ => 0))), (c4, .inl (B.2.2 0, 100, .inl (fun _ => 0))), (c5, .inl (B.2.2 0, 10, .inl (fun _ => 0))), (c6, .inl (B.2.2 0, 10, .inl (fun _ => 0))), (c7, .inr (5, [.ref c8, .ref c9, .ref c10, .ref c11])), (c8, .inl (B.2.2 0, 4, .inl (fun _ => 0))), (c9, .inl (B.2.2 0, 4, .inl (fun _ => 0))), (c10, .inl (B.2.2 0, 4, .inl (fun i => if i < 4 then (-1) else 0))), (c11, .inl (B.2.2 0, 40, .inl (fun _ => 0))), (c12, .inr (7, [.int 0, .ref c13, .ref c14, .ref c15, .ref c16])), (c13, .inl (B.2.2 0, 4, .inl (fun _ => 0))), (c14, .inl (B.2.2 0, 4, .inl (fun _ => 0))), (c15, .inl (B.2.2 1, 4, .inl (fun _ => 0))), (c16, .inl (B.2.2 1, 4, .inl (fun _ => 0))), (c17, .inr (2, [.ref c1, .ref c7, .ref c18, .ref c19, .ref c20, .int 0, .ref c21, .ref c22])), (c18, .inl (B.2.2 0, 10, .inl (fun _ => 0))), (c19, .inl (B.2.2 2, 10, .inr (.inl (fun _ => 0)))), (c20, .inl (B.2.2 2, 10, .inr (.inl (fun _ => 0)))), (c21, .inl (B.2.2 2, 14, .inr (.inl (fun _ => 0)))), (c22, .inl (B.2.2 0, 14, .inl (fun _ => 0))), (c23, .inr (1, [.ref c1, .ref c7, .ref c12, .ref c17, .ref c24, .ref c29, .ref c30, .ref c31, .ref c32, .ref c33, .int 0, .int 0, .int 0, .int 0, .int 1])), (c24, .inr (7, [.int 0, .ref c25, .ref c26, .ref c27, .ref c28])), (c25, .inl (B.2.2 0, 4, .inl (fun _ => 0))), (c26, .inl (B.2.2 0, 4, .inl (fun _ => 0))), (c27, .inl (B.2.2 1, 4, .inl (fun _ => 0))), (c28, .inl (B.2.2 1, 4, .inl (fun _ => 0))), (c29, .inl (B.2.2 0, 4, .inl (fun _ => 0))), (c30, .inl (B.2.2 0, 625, .inl (fun _ => 0))), (c31, .inl (B.2.2 0, 625, .inl (fun _ => 0))), (c32, .inl (B.2.2 0, 4, .inl (fun _ => 0))), (c33, .inl (B.2.2 0, 4, .inl (fun _ => 0))), (c34, .inr (4, [.ref c7, .ref c12, .ref c23, .ref c35, .ref c36, .ref c37, .int 0, .int 0])), (c35, .inl (B.2.2 0, 16, .inl (fun _ => 0))), (c36, .inl (B.2.2 0, 16, .inl (fun _ => 0))), (c37, .inl (B.2.2 0, 4, .inl (fun _ => 0))), (c38, .inr (0, [.ref c1, .ref c12, .ref c17, .ref c39, .ref c44, .int 0, .ref c45, .int 0, .int 0, .ref c46, .ref c47, .int 0, .int 0, .int 0, .int 0, .int 1, .int 0])), (c39, .inr (7, [.int 0, .ref c40, .ref c41, .ref c42, .ref c43])), (c40, .inl (B.2.2 0, 4, .inl (fun _ => 0))), (c41, .inl (B.2.2 0, 4, .inl (fun _ => 0))), (c42, .inl (B.2.2 1, 4, .inl (fun _ => 0))), (c43, .inl (B.2.2 1, 4, .inl (fun _ => 0))), (c44, .inl (B.2.2 3, 6, .inr (.inr (.inr (.inr (va_up (va_up (va_up (va_up (va_up (va_up (fun _ => none) 0 (some c48)) 1 (some c55)) 2 (some c62)) 3 (some c69)) 4 (some c76)) 5 (some c83))))))), (c45, .inl (B.2.2 0, 256, .inl (fun _ => 0))), (c46, .inl (B.2.2 0, 256, .inl (fun _ => 0))), (c47, .inl (B.2.2 0, 256, .inl (fun _ => 0))), (c48, .inr (6, [.ref c49, .ref c54])), (c49, .inr (7, [.int 0, .ref c50, .ref c51, .ref c52, .ref c53])), (c50, .inl (B.2.2 0, 4, .inl (fun _ => 0))), (c51, .inl (B.2.2 0, 4, .inl (fun _ => 0))), (c52, .inl (B.2.2 1, 4, .inl (fun _ => 0))), (c53, .inl (B.2.2 1, 4, .inl (fun _ => 0))), (c54, .inl (B.2.2 0, 10, .inl (fun i => if i < 10 then 4 else 0))), (c55, .inr (6, [.ref c56, .ref c61])), (c56, .inr (7, [.int 0, .ref c57, .ref c58, .ref c59, .ref c60])), (c57, .inl (B.2.2 0, 4, .inl (fun _ => 0))), (c58, .inl (B.2.2 0, 4, .inl (fun _ => 0))), (c59, .inl (B.2.2 1, 4, .inl (fun _ => 0))), (c60, .inl (B.2.2 1, 4, .inl (fun _ => 0))), (c61, .inl (B.2.2 0, 10, .inl (fun i => if i < 10 then 4 else 0))), (c62, .inr (6, [.ref c63, .ref c68])), (c63, .inr (7, [.int 0, .ref c64, .ref c65, .ref c66, .ref c67])), (c64, .inl (B.2.2 0, 4, .inl (fun _ => 0))), (c65, .inl (B.2.2 0, 4, .inl (fun _ => 0))), (c66, .inl (B.2.2 1, 4, .inl (fun _ => 0))), (c67, .inl (B.2.2 1, 4, .inl (fun _ => 0))), (c68, .inl (B.2.2 0, 10, .inl (fun i => if i < 10 then 4 else 0))), (c69, .inr (6, [.ref c70, .ref c75])), (c70, .inr (7, [.int 0, .ref c71, .ref c72, .ref c73, .ref c74])), (c71, .inl (B.2.2 0, 4, .inl (fun _ => 0))), (c72, .inl (B.2.2 0, 4, .inl (fun _ => 0))), (c73, .inl (B.2.2 1, 4, .inl (fun _ => 0))), (c74, .inl (B.2.2 1, 4, .inl (fun _ => 0))), (c75, .inl (B.2.2 0, 10, .inl (fun i => if i < 10 then 4 else 0))), (c76, .inr (6, [.ref c77, .ref c82])), (c77, .inr (7, [.int 0, .ref c78, .ref c79, .ref c80, .ref c81])), (c78, .inl (B.2.2 0, 4, .inl (fun _ => 0))), (c79, .inl (B.2.2 0, 4, .inl (fun _ => 0))), (c80, .inl (B.2.2 1, 4, .inl (fun _ => 0))), (c81, .inl (B.2.2 1, 4, .inl (fun _ => 0))), (c82, .inl (B.2.2 0, 10, .inl (fun i => if i < 10 then 4 else 0))), (c83, .inr (6, [.ref c84, .ref c89])), (c84, .inr (7, [.int 0, .ref c85, .ref c86, .ref c87, .ref c88])), (c85, .inl (B.2.2 0, 4, .inl (fun _ => 0))), (c86, .inl (B.2.2 0, 4, .inl (fun _ => 0))), (c87, .inl (B.2.2 1, 4, .inl (fun _ => 0))), (c88, .inl (B.2.2 1, 4, .inl (fun _ => 0))), (c89, .inl (B.2.2 0, 10, .inl (fun i => if i < 10 then 4 else 0)))] H) : ∀ (k : Nat) (q : Nat × va_E), (zws (zGc B th c0 c1 c2 c3 c4 c5 c6 c7 c8 c9 c10 c11 c12 c13 c14 c15 c16 c17 c18 c19 c20 c21 c22 c23 c24 c25 c26 c27 c28 c29 c30 c31 c32 c33 c34 c35 c36 c37 c38 c39 c40 c41 c42 c43 c44 c45 c46 c47 c48 c49 c50 c51 c52 c53 c54 c55 c56 c57 c58 c59 c60 c61 c62 c63 c64 c65 c66 c67 c68 c69 c70 c71 c72 c73 c74 c75 c76 c77 c78 c79 c80 c81 c82 c83 c84 c85 c86 c87 c88 c89) zc0)[k]? = some q → va_at B.2.1 vwCl q H
  | 0, q, h => by rw [zws_at (sc0 rfl)] at h; cases h; exact hP 0 _ rfl
  | 1, q, h => by rw [zws_at (sc1 rfl)] at h; cases h; exact hP 1 _ rfl
  | 2, q, h => by rw [zws_at (sc2 rfl)] at h; cases h; exact hP 2 _ rfl
  | 3, q, h => by rw [zws_at (sc3 rfl)] at h; cases h; exact hP 3 _ rfl
  | 4, q, h => by rw [zws_at (sc4 rfl)] at h; cases h; exact hP 4 _ rfl
  | 5, q, h => by rw [zws_at (sc5 rfl)] at h; cases h; exact hP 5 _ rfl
  | 6, q, h => by rw [zws_at (sc6 rfl)] at h; cases h; exact hP 6 _ rfl
  | 7, q, h => by rw [zws_at (sc7 rfl)] at h; cases h; exact hP 7 _ rfl
  | 8, q, h => by rw [zws_at (sc8 rfl)] at h; cases h; exact hP 8 _ rfl
  | 9, q, h => by rw [zws_at (sc9 rfl)] at h; cases h; exact hP 9 _ rfl
  | 10, q, h => by rw [zws_at (sc10 rfl)] at h; cases h; exact hP 10 _ rfl
  | 11, q, h => by rw [zws_at (sc11 rfl)] at h; cases h; exact hP 11 _ rfl
  | 12, q, h => by rw [zws_at (sc12 rfl)] at h; cases h; exact hP 12 _ rfl
  | 13, q, h => by rw [zws_at (sc13 rfl)] at h; cases h; exact hP 13 _ rfl
  | 14, q, h => by rw [zws_at (sc14 rfl)] at h; cases h; exact hP 14 _ rfl
  | 15, q, h => by rw [zws_at (sc15 rfl)] at h; cases h; exact hP 15 _ rfl
  | 16, q, h => by rw [zws_at (sc16 rfl)] at h; cases h; exact hP 16 _ rfl
  | 17, q, h => by rw [zws_at (sc17 rfl)] at h; cases h; exact hP 17 _ rfl
  | 18, q, h => by rw [zws_at (sc18 rfl)] at h; cases h; exact hP 18 _ rfl
  | 19, q, h => by rw [zws_at (sc19 rfl)] at h; cases h; exact hP 19 _ rfl
  | 20, q, h => by rw [zws_at (sc20 rfl)] at h; cases h; exact hP 20 _ rfl
  | 21, q, h => by rw [zws_at (sc21 rfl)] at h; cases h; exact hP 21 _ rfl
  | 22, q, h => by rw [zws_at (sc22 rfl)] at h; cases h; exact hP 22 _ rfl
  | 23, q, h => by rw [zws_at (sc23 rfl)] at h; cases h; exact hP 23 _ rfl
  | 24, q, h => by rw [zws_at (sc24 rfl)] at h; cases h; exact hP 24 _ rfl
  | 25, q, h => by rw [zws_at (sc25 rfl)] at h; cases h; exact hP 25 _ rfl
  | 26, q, h => by rw [zws_at (sc26 rfl)] at h; cases h; exact hP 26 _ rfl
  | 27, q, h => by rw [zws_at (sc27 rfl)] at h; cases h; exact hP 27 _ rfl
  | 28, q, h => by rw [zws_at (sc28 rfl)] at h; cases h; exact hP 28 _ rfl
  | 29, q, h => by rw [zws_at (sc29 rfl)] at h; cases h; exact hP 29 _ rfl
  | 30, q, h => by rw [zws_at (sc30 rfl)] at h; cases h; exact hP 30 _ rfl
  | 31, q, h => by rw [zws_at (sc31 rfl)] at h; cases h; exact hP 31 _ rfl
  | 32, q, h => by rw [zws_at (sc32 rfl)] at h; cases h; exact hP 32 _ rfl
  | 33, q, h => by rw [zws_at (sc33 rfl)] at h; cases h; exact hP 33 _ rfl
  | 34, q, h => by rw [zws_at (sc34 rfl)] at h; cases h; exact hP 34 _ rfl
  | 35, q, h => by rw [zws_at (sc35 rfl)] at h; cases h; exact hP 35 _ rfl
  | 36, q, h => by rw [zws_at (sc36 rfl)] at h; cases h; exact hP 36 _ rfl
  | 37, q, h => by rw [zws_at (sc37 rfl)] at h; cases h; exact hP 37 _ rfl
  | 38, q, h => by rw [zws_at (sc38 rfl)] at h; cases h; exact hP 38 _ rfl
  | 39, q, h => by rw [zws_at (sc39 rfl)] at h; cases h; exact hP 39 _ rfl
  | 40, q, h => by rw [zws_at (sc40 rfl)] at h; cases h; exact hP 40 _ rfl
  | 41, q, h => by rw [zws_at (sc41 rfl)] at h; cases h; exact hP 41 _ rfl
  | 42, q, h => by rw [zws_at (sc42 rfl)] at h; cases h; exact hP 42 _ rfl
  | 43, q, h => by rw [zws_at (sc43 rfl)] at h; cases h; exact hP 43 _ rfl
  | 44, q, h => by
    rw [zws_at (sc44 rfl)] at h
    cases h
    have := hP 44 _ rfl
    rw [zrow_tr c0 c1 c2 c3 c4 c5 c6 c7 c8 c9 c10 c11 c12 c13 c14 c15 c16 c17 c18 c19 c20 c21 c22 c23 c24 c25 c26 c27 c28 c29 c30 c31 c32 c33 c34 c35 c36 c37 c38 c39 c40 c41 c42 c43 c44 c45 c46 c47 c48 c49 c50 c51 c52 c53 c54 c55 c56 c57 c58 c59 c60 c61 c62 c63 c64 c65 c66 c67 c68 c69 c70 c71 c72 c73 c74 c75 c76 c77 c78 c79 c80 c81 c82 c83 c84 c85 c86 c87 c88 c89] at this
    exact this
  | 45, q, h => by rw [zws_at (sc45 rfl)] at h; cases h; exact hP 45 _ rfl
  | 46, q, h => by rw [zws_at (sc46 rfl)] at h; cases h; exact hP 46 _ rfl
  | 47, q, h => by rw [zws_at (sc47 rfl)] at h; cases h; exact hP 47 _ rfl
  | 48, q, h => by rw [zws_at (sc48 rfl)] at h; cases h; exact hP 48 _ rfl
  | 49, q, h => by rw [zws_at (sc49 rfl)] at h; cases h; exact hP 49 _ rfl
  | 50, q, h => by rw [zws_at (sc50 rfl)] at h; cases h; exact hP 50 _ rfl
  | 51, q, h => by rw [zws_at (sc51 rfl)] at h; cases h; exact hP 51 _ rfl
  | 52, q, h => by rw [zws_at (sc52 rfl)] at h; cases h; exact hP 52 _ rfl
  | 53, q, h => by rw [zws_at (sc53 rfl)] at h; cases h; exact hP 53 _ rfl
  | 54, q, h => by rw [zws_at (sc54 rfl)] at h; cases h; exact hP 54 _ rfl
  | 55, q, h => by rw [zws_at (sc55 rfl)] at h; cases h; exact hP 55 _ rfl
  | 56, q, h => by rw [zws_at (sc56 rfl)] at h; cases h; exact hP 56 _ rfl
  | 57, q, h => by rw [zws_at (sc57 rfl)] at h; cases h; exact hP 57 _ rfl
  | 58, q, h => by rw [zws_at (sc58 rfl)] at h; cases h; exact hP 58 _ rfl
  | 59, q, h => by rw [zws_at (sc59 rfl)] at h; cases h; exact hP 59 _ rfl
  | 60, q, h => by rw [zws_at (sc60 rfl)] at h; cases h; exact hP 60 _ rfl
  | 61, q, h => by rw [zws_at (sc61 rfl)] at h; cases h; exact hP 61 _ rfl
  | 62, q, h => by rw [zws_at (sc62 rfl)] at h; cases h; exact hP 62 _ rfl
  | 63, q, h => by rw [zws_at (sc63 rfl)] at h; cases h; exact hP 63 _ rfl
  | 64, q, h => by rw [zws_at (sc64 rfl)] at h; cases h; exact hP 64 _ rfl
  | 65, q, h => by rw [zws_at (sc65 rfl)] at h; cases h; exact hP 65 _ rfl
  | 66, q, h => by rw [zws_at (sc66 rfl)] at h; cases h; exact hP 66 _ rfl
  | 67, q, h => by rw [zws_at (sc67 rfl)] at h; cases h; exact hP 67 _ rfl
  | 68, q, h => by rw [zws_at (sc68 rfl)] at h; cases h; exact hP 68 _ rfl
  | 69, q, h => by rw [zws_at (sc69 rfl)] at h; cases h; exact hP 69 _ rfl
  | 70, q, h => by rw [zws_at (sc70 rfl)] at h; cases h; exact hP 70 _ rfl
  | 71, q, h => by rw [zws_at (sc71 rfl)] at h; cases h; exact hP 71 _ rfl
  | 72, q, h => by rw [zws_at (sc72 rfl)] at h; cases h; exact hP 72 _ rfl
  | 73, q, h => by rw [zws_at (sc73 rfl)] at h; cases h; exact hP 73 _ rfl
  | 74, q, h => by rw [zws_at (sc74 rfl)] at h; cases h; exact hP 74 _ rfl
  | 75, q, h => by rw [zws_at (sc75 rfl)] at h; cases h; exact hP 75 _ rfl
  | 76, q, h => by rw [zws_at (sc76 rfl)] at h; cases h; exact hP 76 _ rfl
  | 77, q, h => by rw [zws_at (sc77 rfl)] at h; cases h; exact hP 77 _ rfl
  | 78, q, h => by rw [zws_at (sc78 rfl)] at h; cases h; exact hP 78 _ rfl
  | 79, q, h => by rw [zws_at (sc79 rfl)] at h; cases h; exact hP 79 _ rfl
  | 80, q, h => by rw [zws_at (sc80 rfl)] at h; cases h; exact hP 80 _ rfl
  | 81, q, h => by rw [zws_at (sc81 rfl)] at h; cases h; exact hP 81 _ rfl
  | 82, q, h => by rw [zws_at (sc82 rfl)] at h; cases h; exact hP 82 _ rfl
  | 83, q, h => by rw [zws_at (sc83 rfl)] at h; cases h; exact hP 83 _ rfl
  | 84, q, h => by rw [zws_at (sc84 rfl)] at h; cases h; exact hP 84 _ rfl
  | 85, q, h => by rw [zws_at (sc85 rfl)] at h; cases h; exact hP 85 _ rfl
  | 86, q, h => by rw [zws_at (sc86 rfl)] at h; cases h; exact hP 86 _ rfl
  | 87, q, h => by rw [zws_at (sc87 rfl)] at h; cases h; exact hP 87 _ rfl
  | 88, q, h => by rw [zws_at (sc88 rfl)] at h; cases h; exact hP 88 _ rfl
  | 89, q, h => by rw [zws_at (sc89 rfl)] at h; cases h; exact hP 89 _ rfl
  | k + 90, q, h => absurd (zws_lt h).1 (by show ¬ k + 90 < 90; omega)
set_option maxRecDepth 100000 in
set_option maxHeartbeats 4000000 in
theorem zP_m0 (B : ZB) (th : Nat) (m0 m1 m2 m3 m4 m5 m6 m7 m8 m9 m10 m11 m12 m13 m14 m15 m16 m17 m18 m19 m20 m21 m22 m23 m24 m25 m26 m27 m28 m29 m30 m31 m32 m33 m34 m35 m36 m37 m38 m39 m40 : Nat) {H : Heap} (hP : va_P B.2.1 vwCl [(m0, .inr (9, [.int 0, .int 0, .ref m1, .ref m2, .ref m3, .int 0, .ref m4, .ref m5, .ref m6, .ref m7, .ref m8, .ref m9, .ref m10, .ref m11, .int 0, .ref m12, .ref m13, .ref m14, .ref m15, .ref m16, .ref m17, .ref m18, .ref m19, .ref m20, .ref m21, .ref m22, .ref m23, .ref m24, .ref m25, .ref m26, .int 0, .int 0, .ref m27, .int 0, .ref m28, .ref m29, .ref m30, .ref m31, .ref m32, .ref m33, .int 0, .ref m34, .ref m35, .ref m36, .int 0, .int 0, .ref m37, .int 0, .long 0, .int 0, .ref m38, .int 0, .long 0, .int 0, .ref m39, .ref m40, .int 0])), (m1, .inl (B.2.2 0, 100, .inl (fun _ => 0))), (m2, .inl (B.2.2 0, 10, .inl (fun _ => 0))), (m3, .inl (B.2.2 0, 10, .inl (fun _ => 0))), (m4, .inl (B.2.2 0, 4, .inl (fun _ => 0))), (m5, .inl (B.2.2 0, 4, .inl (fun _ => 0))), (m6, .inl (B.2.2 1, 4, .inl (fun _ => 0))), (m7, .inl (B.2.2 0, 4, .inl (fun _ => 0))), (m8, .inl (B.2.2 0, 4, .inl (fun _ => 0))), (m9, .inl (B.2.2 1, 4, .inl (fun _ => 0))), (m10, .inl (B.2.2 0, 40, .inl (fun _ => 0))), (m11, .inl (B.2.2 0, 4, .inl (fun _ => 0))), (m12, .inl (B.2.2 0, 4, .inl (fun _ => 0))), (m13, .inl (B.2.2 0, 4, .inl (fun _ => 0))), (m14, .inl (B.2.2 1, 4, .inl (fun _ => 0))), (m15, .inl (B.2.2 1, 4, .inl (fun _ => 0))), (m16, .inl (B.2.2 0, 10, .inl (fun _ => 0))), (m17, .inl (B.2.2 0, 10, .inl (fun _ => 0))), (m18, .inl (B.2.2 0, 10, .inl (fun _ => 0))), (m19, .inl (B.2.2 0, 10, .inl (fun _ => 0))), (m20, .inl (B.2.2 0, 10, .inl (fun _ => 0))), (m21, .inl (B.2.2 0, 100, .inl (fun _ => 0))), (m22, .inl (B.2.2 0, 10, .inl (fun _ => 0))), (m23, .inl (B.2.2 0, 10, .inl (fun _ => 0))), (m24, .inl (B.2.2 0, 10, .inl (fun _ => 0))), (m25, .inl (B.2.2 0, 10, .inl (fun _ => 0))), (m26, .inl (B.2.2 0, 100, .inl (fun _ => 0))), (m27, .inl (B.2.2 0, 10, .inl (fun _ => 0))), (m28, .inl (B.2.2 0, 6, .inl (fun _ => 0))), (m29, .inl (B.2.2 0, 24, .inl (fun _ => 0))), (m30, .inl (B.2.2 0, 24, .inl (fun _ => 0))), (m31, .inl (B.2.2 1, 24, .inl (fun _ => 0))), (m32, .inl (B.2.2 1, 24, .inl (fun _ => 0))), (m33, .inl (B.2.2 0, 60, .inl (fun _ => 0))), (m34, .inl (B.2.2 0, 256, .inl (fun _ => 0))), (m35, .inl (B.2.2 0, 10, .inl (fun _ => 0))), (m36, .inl (B.2.2 2, 256, .inr (.inl (fun _ => 0)))), (m37, .inl (B.2.2 0, 4, .inl (fun _ => 0))), (m38, .inl (B.2.2 0, 4, .inl (fun _ => 0))), (m39, .inl (B.2.2 0, 4, .inl (fun _ => 0))), (m40, .inl (B.2.2 0, 4, .inl (fun _ => 0)))] H) : ∀ (k : Nat) (q : Nat × va_E), (zws (zGm B th m0 m1 m2 m3 m4 m5 m6 m7 m8 m9 m10 m11 m12 m13 m14 m15 m16 m17 m18 m19 m20 m21 m22 m23 m24 m25 m26 m27 m28 m29 m30 m31 m32 m33 m34 m35 m36 m37 m38 m39 m40) zm0)[k]? = some q → va_at B.2.1 vwCl q H
  | 0, q, h => by rw [zws_at (sm0 rfl)] at h; cases h; exact hP 0 _ rfl
  | 1, q, h => by rw [zws_at (sm1 rfl)] at h; cases h; exact hP 1 _ rfl
  | 2, q, h => by rw [zws_at (sm2 rfl)] at h; cases h; exact hP 2 _ rfl
  | 3, q, h => by rw [zws_at (sm3 rfl)] at h; cases h; exact hP 3 _ rfl
  | 4, q, h => by rw [zws_at (sm4 rfl)] at h; cases h; exact hP 4 _ rfl
  | 5, q, h => by rw [zws_at (sm5 rfl)] at h; cases h; exact hP 5 _ rfl
  | 6, q, h => by rw [zws_at (sm6 rfl)] at h; cases h; exact hP 6 _ rfl
  | 7, q, h => by rw [zws_at (sm7 rfl)] at h; cases h; exact hP 7 _ rfl
  | 8, q, h => by rw [zws_at (sm8 rfl)] at h; cases h; exact hP 8 _ rfl
  | 9, q, h => by rw [zws_at (sm9 rfl)] at h; cases h; exact hP 9 _ rfl
  | 10, q, h => by rw [zws_at (sm10 rfl)] at h; cases h; exact hP 10 _ rfl
  | 11, q, h => by rw [zws_at (sm11 rfl)] at h; cases h; exact hP 11 _ rfl
  | 12, q, h => by rw [zws_at (sm12 rfl)] at h; cases h; exact hP 12 _ rfl
  | 13, q, h => by rw [zws_at (sm13 rfl)] at h; cases h; exact hP 13 _ rfl
  | 14, q, h => by rw [zws_at (sm14 rfl)] at h; cases h; exact hP 14 _ rfl
  | 15, q, h => by rw [zws_at (sm15 rfl)] at h; cases h; exact hP 15 _ rfl
  | 16, q, h => by rw [zws_at (sm16 rfl)] at h; cases h; exact hP 16 _ rfl
  | 17, q, h => by rw [zws_at (sm17 rfl)] at h; cases h; exact hP 17 _ rfl
  | 18, q, h => by rw [zws_at (sm18 rfl)] at h; cases h; exact hP 18 _ rfl
  | 19, q, h => by rw [zws_at (sm19 rfl)] at h; cases h; exact hP 19 _ rfl
  | 20, q, h => by rw [zws_at (sm20 rfl)] at h; cases h; exact hP 20 _ rfl
  | 21, q, h => by rw [zws_at (sm21 rfl)] at h; cases h; exact hP 21 _ rfl
  | 22, q, h => by rw [zws_at (sm22 rfl)] at h; cases h; exact hP 22 _ rfl
  | 23, q, h => by rw [zws_at (sm23 rfl)] at h; cases h; exact hP 23 _ rfl
  | 24, q, h => by rw [zws_at (sm24 rfl)] at h; cases h; exact hP 24 _ rfl
  | 25, q, h => by rw [zws_at (sm25 rfl)] at h; cases h; exact hP 25 _ rfl
  | 26, q, h => by rw [zws_at (sm26 rfl)] at h; cases h; exact hP 26 _ rfl
  | 27, q, h => by rw [zws_at (sm27 rfl)] at h; cases h; exact hP 27 _ rfl
  | 28, q, h => by rw [zws_at (sm28 rfl)] at h; cases h; exact hP 28 _ rfl
  | 29, q, h => by rw [zws_at (sm29 rfl)] at h; cases h; exact hP 29 _ rfl
  | 30, q, h => by rw [zws_at (sm30 rfl)] at h; cases h; exact hP 30 _ rfl
  | 31, q, h => by rw [zws_at (sm31 rfl)] at h; cases h; exact hP 31 _ rfl
  | 32, q, h => by rw [zws_at (sm32 rfl)] at h; cases h; exact hP 32 _ rfl
  | 33, q, h => by rw [zws_at (sm33 rfl)] at h; cases h; exact hP 33 _ rfl
  | 34, q, h => by rw [zws_at (sm34 rfl)] at h; cases h; exact hP 34 _ rfl
  | 35, q, h => by rw [zws_at (sm35 rfl)] at h; cases h; exact hP 35 _ rfl
  | 36, q, h => by rw [zws_at (sm36 rfl)] at h; cases h; exact hP 36 _ rfl
  | 37, q, h => by rw [zws_at (sm37 rfl)] at h; cases h; exact hP 37 _ rfl
  | 38, q, h => by rw [zws_at (sm38 rfl)] at h; cases h; exact hP 38 _ rfl
  | 39, q, h => by rw [zws_at (sm39 rfl)] at h; cases h; exact hP 39 _ rfl
  | 40, q, h => by rw [zws_at (sm40 rfl)] at h; cases h; exact hP 40 _ rfl
  | k + 41, q, h => absurd (zws_lt h).1 (by show ¬ k + 41 < 41; omega)
theorem zfst {ws : va_W} {l : List Nat} (h : ws.map Prod.fst = l) {i a : Nat} (hi : l[i]? = some a) : ∃ e, ws[i]? = some (a, e) := by
  rw [← h, List.getElem?_map] at hi
  cases hw : ws[i]? with
  | none => rw [hw] at hi; cases hi
  | some x => rw [hw] at hi; exact ⟨x.2, by cases hi; rfl⟩
theorem zsplit2 {Gc Gm : ZG} {A : Nat → Prop} {ws : va_W} {lc lm : List Nat} (h : va_D A ws) (hf : ws.map Prod.fst = lc ++ lm) (nc : lc.length = (zSH Gc).length) (nm : lm.length = (zSH Gm).length) (ac : ∀ k, zad Gc k = lc.getD k 0) (am : ∀ k, zad Gm k = lm.getD k 0) : zinj Gc ∧ zinj Gm ∧ (∀ q, zreg Gc q → ¬ zreg Gm q) ∧ (∀ q, zreg Gc q → A q) ∧ (∀ q, zreg Gm q → A q) := by
  have hc : ∀ i, i < (zSH Gc).length → ∃ e, ws[i]? = some (zad Gc i, e) := by
    intro i hi
    refine zfst hf ?_
    rw [List.getElem?_append_left (by omega), ac, List.getElem?_eq_getElem (by omega), List.getD_eq_getElem?_getD, List.getElem?_eq_getElem (by omega)]
    rfl
  have hm : ∀ i, i < (zSH Gm).length → ∃ e, ws[(zSH Gc).length + i]? = some (zad Gm i, e) := by
    intro i hi
    refine zfst hf ?_
    rw [List.getElem?_append_right (by omega), nc, Nat.add_sub_cancel_left, am, List.getElem?_eq_getElem (by omega), List.getD_eq_getElem?_getD, List.getElem?_eq_getElem (by omega)]
    rfl
  refine ⟨fun i j hi hj e => ?_, fun i j hi hj e => ?_, ?_, ?_, ?_⟩
  · obtain ⟨x, hx⟩ := hc i hi
    obtain ⟨y, hy⟩ := hc j hj
    exact h.1 i j _ _ hx hy e
  · obtain ⟨x, hx⟩ := hm i hi
    obtain ⟨y, hy⟩ := hm j hj
    have := h.1 _ _ _ _ hx hy e
    omega
  · rintro q ⟨i, hi, rfl⟩ ⟨j, hj, e⟩
    obtain ⟨x, hx⟩ := hc i hi
    obtain ⟨y, hy⟩ := hm j hj
    have := h.1 _ _ _ _ hx hy e
    omega
  · rintro q ⟨i, hi, rfl⟩
    obtain ⟨x, hx⟩ := hc i hi
    exact h.2 _ _ hx
  · rintro q ⟨i, hi, rfl⟩
    obtain ⟨x, hx⟩ := hm i hi
    exact h.2 _ _ hx
