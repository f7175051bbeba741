theorem dX7_torn_0 : decode cX7_torn 0 = .ok (.aload_n 0, 1) := by decide +kernel
theorem dX7_torn_1 : decode cX7_torn 1 = .ok (.iload_n 1, 1) := by decide +kernel
theorem dX7_torn_2 : decode cX7_torn 2 = .ok (.invokevirtual 212, 3) := by decide +kernel
theorem dX7_torn_5 : decode cX7_torn 5 = .ok (.ifCond .ne 6, 3) := by decide +kernel
theorem dX7_torn_8 : decode cX7_torn 8 = .ok (.bipush (-2), 2) := by decide +kernel
theorem dX7_torn_10 : decode cX7_torn 10 = .ok (.ireturn, 1) := by decide +kernel
theorem dX7_torn_11 : decode cX7_torn 11 = .ok (.aload_n 0, 1) := by decide +kernel
theorem dX7_torn_12 : decode cX7_torn 12 = .ok (.invokevirtual 215, 3) := by decide +kernel
theorem dX7_torn_15 : decode cX7_torn 15 = .ok (.aload_n 0, 1) := by decide +kernel
theorem dX7_torn_16 : decode cX7_torn 16 = .ok (.getfield 60, 3) := by decide +kernel
theorem dX7_torn_19 : decode cX7_torn 19 = .ok (.getfield 218, 3) := by decide +kernel
theorem dX7_torn_22 : decode cX7_torn 22 = .ok (.iconst 1, 1) := by decide +kernel
theorem dX7_torn_23 : decode cX7_torn 23 = .ok (.iload_n 1, 1) := by decide +kernel
theorem dX7_torn_24 : decode cX7_torn 24 = .ok (.ishl, 1) := by decide +kernel
theorem dX7_torn_25 : decode cX7_torn 25 = .ok (.iconst (-1), 1) := by decide +kernel
theorem dX7_torn_26 : decode cX7_torn 26 = .ok (.ixor, 1) := by decide +kernel
theorem dX7_torn_27 : decode cX7_torn 27 = .ok (.iand, 1) := by decide +kernel
theorem dX7_torn_28 : decode cX7_torn 28 = .ok (.istore_n 2, 1) := by decide +kernel
theorem dX7_torn_29 : decode cX7_torn 29 = .ok (.aload_n 0, 1) := by decide +kernel
theorem dX7_torn_30 : decode cX7_torn 30 = .ok (.getfield 60, 3) := by decide +kernel
theorem dX7_torn_33 : decode cX7_torn 33 = .ok (.getfield 224, 3) := by decide +kernel
theorem dX7_torn_36 : decode cX7_torn 36 = .ok (.iload_n 1, 1) := by decide +kernel
theorem dX7_torn_37 : decode cX7_torn 37 = .ok (.iaload, 1) := by decide +kernel
theorem dX7_torn_38 : decode cX7_torn 38 = .ok (.iconst 2, 1) := by decide +kernel
theorem dX7_torn_39 : decode cX7_torn 39 = .ok (.idiv, 1) := by decide +kernel
theorem dX7_torn_40 : decode cX7_torn 40 = .ok (.istore_n 3, 1) := by decide +kernel
theorem dX7_torn_41 : decode cX7_torn 41 = .ok (.aload_n 0, 1) := by decide +kernel
theorem dX7_torn_42 : decode cX7_torn 42 = .ok (.getfield 60, 3) := by decide +kernel
theorem dX7_torn_45 : decode cX7_torn 45 = .ok (.getfield 224, 3) := by decide +kernel
theorem dX7_torn_48 : decode cX7_torn 48 = .ok (.iload_n 1, 1) := by decide +kernel
theorem dX7_torn_49 : decode cX7_torn 49 = .ok (.iaload, 1) := by decide +kernel
theorem dX7_torn_50 : decode cX7_torn 50 = .ok (.iload_n 3, 1) := by decide +kernel
theorem dX7_torn_51 : decode cX7_torn 51 = .ok (.isub, 1) := by decide +kernel
theorem dX7_torn_52 : decode cX7_torn 52 = .ok (.istore 4, 2) := by decide +kernel
theorem dX7_torn_54 : decode cX7_torn 54 = .ok (.iconst 0, 1) := by decide +kernel
theorem dX7_torn_55 : decode cX7_torn 55 = .ok (.istore 5, 2) := by decide +kernel
theorem dX7_torn_57 : decode cX7_torn 57 = .ok (.iconst 0, 1) := by decide +kernel
theorem dX7_torn_58 : decode cX7_torn 58 = .ok (.istore 6, 2) := by decide +kernel
theorem dX7_torn_60 : decode cX7_torn 60 = .ok (.iload 6, 2) := by decide +kernel
theorem dX7_torn_62 : decode cX7_torn 62 = .ok (.iload_n 2, 1) := by decide +kernel
theorem dX7_torn_63 : decode cX7_torn 63 = .ok (.if_icmp .gt 116, 3) := by decide +kernel
theorem dX7_torn_66 : decode cX7_torn 66 = .ok (.iload 6, 2) := by decide +kernel
theorem dX7_torn_68 : decode cX7_torn 68 = .ok (.iload_n 2, 1) := by decide +kernel
theorem dX7_torn_69 : decode cX7_torn 69 = .ok (.iconst (-1), 1) := by decide +kernel
theorem dX7_torn_70 : decode cX7_torn 70 = .ok (.ixor, 1) := by decide +kernel
theorem dX7_torn_71 : decode cX7_torn 71 = .ok (.iand, 1) := by decide +kernel
theorem dX7_torn_72 : decode cX7_torn 72 = .ok (.ifCond .ne 101, 3) := by decide +kernel
theorem dX7_torn_75 : decode cX7_torn 75 = .ok (.aload_n 0, 1) := by decide +kernel
theorem dX7_torn_76 : decode cX7_torn 76 = .ok (.getfield 60, 3) := by decide +kernel
theorem dX7_torn_79 : decode cX7_torn 79 = .ok (.iload 6, 2) := by decide +kernel
theorem dX7_torn_81 : decode cX7_torn 81 = .ok (.invokevirtual 221, 3) := by decide +kernel
theorem dX7_torn_84 : decode cX7_torn 84 = .ok (.istore 7, 2) := by decide +kernel
theorem dX7_torn_86 : decode cX7_torn 86 = .ok (.iload 5, 2) := by decide +kernel
theorem dX7_torn_88 : decode cX7_torn 88 = .ok (.aload_n 0, 1) := by decide +kernel
theorem dX7_torn_89 : decode cX7_torn 89 = .ok (.iload 7, 2) := by decide +kernel
theorem dX7_torn_91 : decode cX7_torn 91 = .ok (.iload_n 3, 1) := by decide +kernel
theorem dX7_torn_92 : decode cX7_torn 92 = .ok (.invokevirtual 227, 3) := by decide +kernel
theorem dX7_torn_95 : decode cX7_torn 95 = .ok (.ifCond .eq 7, 3) := by decide +kernel
theorem dX7_torn_98 : decode cX7_torn 98 = .ok (.iconst 1, 1) := by decide +kernel
theorem dX7_torn_99 : decode cX7_torn 99 = .ok (.goto 4, 3) := by decide +kernel
theorem dX7_torn_102 : decode cX7_torn 102 = .ok (.iconst 0, 1) := by decide +kernel
theorem dX7_torn_103 : decode cX7_torn 103 = .ok (.iadd, 1) := by decide +kernel
theorem dX7_torn_104 : decode cX7_torn 104 = .ok (.istore 5, 2) := by decide +kernel
theorem dX7_torn_106 : decode cX7_torn 106 = .ok (.iload 5, 2) := by decide +kernel
theorem dX7_torn_108 : decode cX7_torn 108 = .ok (.aload_n 0, 1) := by decide +kernel
theorem dX7_torn_109 : decode cX7_torn 109 = .ok (.iload 7, 2) := by decide +kernel
theorem dX7_torn_111 : decode cX7_torn 111 = .ok (.iload 4, 2) := by decide +kernel
theorem dX7_torn_113 : decode cX7_torn 113 = .ok (.iadd, 1) := by decide +kernel
theorem dX7_torn_114 : decode cX7_torn 114 = .ok (.iload_n 3, 1) := by decide +kernel
theorem dX7_torn_115 : decode cX7_torn 115 = .ok (.invokevirtual 227, 3) := by decide +kernel
theorem dX7_torn_118 : decode cX7_torn 118 = .ok (.ifCond .eq 7, 3) := by decide +kernel
theorem dX7_torn_121 : decode cX7_torn 121 = .ok (.iconst 1, 1) := by decide +kernel
theorem dX7_torn_122 : decode cX7_torn 122 = .ok (.goto 4, 3) := by decide +kernel
theorem dX7_torn_125 : decode cX7_torn 125 = .ok (.iconst 0, 1) := by decide +kernel
theorem dX7_torn_126 : decode cX7_torn 126 = .ok (.iadd, 1) := by decide +kernel
theorem dX7_torn_127 : decode cX7_torn 127 = .ok (.istore 5, 2) := by decide +kernel
theorem dX7_torn_129 : decode cX7_torn 129 = .ok (.iload 5, 2) := by decide +kernel
theorem dX7_torn_131 : decode cX7_torn 131 = .ok (.aload_n 0, 1) := by decide +kernel
theorem dX7_torn_132 : decode cX7_torn 132 = .ok (.iload 7, 2) := by decide +kernel
theorem dX7_torn_134 : decode cX7_torn 134 = .ok (.iload 4, 2) := by decide +kernel
theorem dX7_torn_136 : decode cX7_torn 136 = .ok (.invokevirtual 227, 3) := by decide +kernel
theorem dX7_torn_139 : decode cX7_torn 139 = .ok (.ifCond .eq 7, 3) := by decide +kernel
theorem dX7_torn_142 : decode cX7_torn 142 = .ok (.iconst 1, 1) := by decide +kernel
theorem dX7_torn_143 : decode cX7_torn 143 = .ok (.goto 4, 3) := by decide +kernel
theorem dX7_torn_146 : decode cX7_torn 146 = .ok (.iconst 0, 1) := by decide +kernel
theorem dX7_torn_147 : decode cX7_torn 147 = .ok (.iadd, 1) := by decide +kernel
theorem dX7_torn_148 : decode cX7_torn 148 = .ok (.istore 5, 2) := by decide +kernel
theorem dX7_torn_150 : decode cX7_torn 150 = .ok (.iload 5, 2) := by decide +kernel
theorem dX7_torn_152 : decode cX7_torn 152 = .ok (.aload_n 0, 1) := by decide +kernel
theorem dX7_torn_153 : decode cX7_torn 153 = .ok (.iload 7, 2) := by decide +kernel
theorem dX7_torn_155 : decode cX7_torn 155 = .ok (.iload_n 3, 1) := by decide +kernel
theorem dX7_torn_156 : decode cX7_torn 156 = .ok (.iadd, 1) := by decide +kernel
theorem dX7_torn_157 : decode cX7_torn 157 = .ok (.iload 4, 2) := by decide +kernel
theorem dX7_torn_159 : decode cX7_torn 159 = .ok (.invokevirtual 227, 3) := by decide +kernel
theorem dX7_torn_162 : decode cX7_torn 162 = .ok (.ifCond .eq 7, 3) := by decide +kernel
theorem dX7_torn_165 : decode cX7_torn 165 = .ok (.iconst 1, 1) := by decide +kernel
theorem dX7_torn_166 : decode cX7_torn 166 = .ok (.goto 4, 3) := by decide +kernel
theorem dX7_torn_169 : decode cX7_torn 169 = .ok (.iconst 0, 1) := by decide +kernel
theorem dX7_torn_170 : decode cX7_torn 170 = .ok (.iadd, 1) := by decide +kernel
theorem dX7_torn_171 : decode cX7_torn 171 = .ok (.istore 5, 2) := by decide +kernel
theorem dX7_torn_173 : decode cX7_torn 173 = .ok (.iinc 6 1, 3) := by decide +kernel
theorem dX7_torn_176 : decode cX7_torn 176 = .ok (.goto (-116), 3) := by decide +kernel
theorem dX7_torn_179 : decode cX7_torn 179 = .ok (.iload 5, 2) := by decide +kernel
theorem dX7_torn_181 : decode cX7_torn 181 = .ok (.ireturn, 1) := by decide +kernel
set_option maxHeartbeats 4000000 in
set_option maxRecDepth 100000 in
theorem bb_X7_torn_173 {p : Program} {l : Launch} {e : Env} {s : State} {m : MethodId} {args : Array Value} {below : List Frame} {meth : Method} {c : Code} {D : va_G} {cy : Nat → ClassId} {nt : Nat} {ad : Nat → Nat} {A : Nat → Prop} {X : Nat → Nat} {Q : Int32 → Sg → Prop} (K : Kx p s m args meth c cX7_torn 8 RX7 D cy) (KX : XC X A s s.heap) (hr : meth.sig.returnType = (some .int))  {rc60 : Int32 → Int32 → Int32 → Int32 → Int32 → Sg → Prop} (hrc60 : ∀ (x2 : Int32) (x3 : Int32) (x4 : Int32) (x5 : Int32) (x6 : Int32) (u : Sg) (H : Heap) (locs : List Loc) (ls : Array Slot), rc60 x2 x3 x4 x5 x6 u → Wd D A s.heap (wsC cy nt ad u) H locs → lv_has ls 8 [(0, .ref (ad 0)), (2, .int x2), (3, .int x3), (4, .int x4), (5, .int x5), (6, .int x6)] → W p l e (rmD 6) s m args below meth c H locs 0 0 (MQ below (va_Qi Q (PostG (wsC cy nt ad) D A) A) args s 0 0 A) (F0 m 60 ls [])) (x2 : Int32) (x3 : Int32) (x4 : Int32) (x5 : Int32) (x6 : Int32)  (g0 : Sg) (H : Heap) (locs : List Loc) (ls : Array Slot) (hd : vv_X7_torn_J173 nt rc60 x2 x3 x4 x5 x6 g0 Q) (hw : Wd D A s.heap (wsC cy nt ad g0) H locs) (hl : lv_has ls 8 [(0, .ref (ad 0)), (2, .int x2), (3, .int x3), (4, .int x4), (5, .int x5), (6, .int x6)]) : W p l e (rmD 6) s m args below meth c H locs 0 0 (MQ below (va_Qi Q (PostG (wsC cy nt ad) D A) A) args s 0 0 A) (F0 m 173 ls []) := by
  unfold vv_X7_torn_J173 at hd
  obtain ⟨x6_13, ex6_13⟩ : ∃ y : Int32, y = x6 + (1 : Int32) := ⟨_, rfl⟩
  have hd := hd x6_13 ex6_13
  refine lv_iinc (v := x6_13) (lv' := [(6, .int x6_13), (0, .ref (ad 0)), (2, .int x2), (3, .int x3), (4, .int x4), (5, .int x5)]) K.1 K.2.1 dX7_torn_173 hl (k := 5) rfl (by rw [ex6_13]; rfl) (by decide) rfl (fun ls hl => ?_)
  refine lv_goto (tgt := 60) K.1 K.2.1 dX7_torn_176 (by decide) ?_
  exact hrc60 x2 x3 x4 x5 x6_13 g0 _ _ _  hd hw (lv_sub hl [1, 2, 3, 4, 5, 0] rfl)
set_option maxHeartbeats 4000000 in
set_option maxRecDepth 100000 in
theorem bb_X7_torn_170 {p : Program} {l : Launch} {e : Env} {s : State} {m : MethodId} {args : Array Value} {below : List Frame} {meth : Method} {c : Code} {D : va_G} {cy : Nat → ClassId} {nt : Nat} {ad : Nat → Nat} {A : Nat → Prop} {X : Nat → Nat} {Q : Int32 → Sg → Prop} (K : Kx p s m args meth c cX7_torn 8 RX7 D cy) (KX : XC X A s s.heap) (hr : meth.sig.returnType = (some .int))  {rc60 : Int32 → Int32 → Int32 → Int32 → Int32 → Sg → Prop} (hrc60 : ∀ (x2 : Int32) (x3 : Int32) (x4 : Int32) (x5 : Int32) (x6 : Int32) (u : Sg) (H : Heap) (locs : List Loc) (ls : Array Slot), rc60 x2 x3 x4 x5 x6 u → Wd D A s.heap (wsC cy nt ad u) H locs → lv_has ls 8 [(0, .ref (ad 0)), (2, .int x2), (3, .int x3), (4, .int x4), (5, .int x5), (6, .int x6)] → W p l e (rmD 6) s m args below meth c H locs 0 0 (MQ below (va_Qi Q (PostG (wsC cy nt ad) D A) A) args s 0 0 A) (F0 m 60 ls [])) (x2 : Int32) (x3 : Int32) (x4 : Int32) (x6 : Int32) (t0 : Int32) (t1 : Int32) (g0 : Sg) (H : Heap) (locs : List Loc) (ls : Array Slot) (hd : vv_X7_torn_J170 nt rc60 x2 x3 x4 x6 t0 t1 g0 Q) (hw : Wd D A s.heap (wsC cy nt ad g0) H locs) (hl : lv_has ls 8 [(0, .ref (ad 0)), (2, .int x2), (3, .int x3), (4, .int x4), (6, .int x6)]) : W p l e (rmD 6) s m args below meth c H locs 0 0 (MQ below (va_Qi Q (PostG (wsC cy nt ad) D A) A) args s 0 0 A) (F0 m 170 ls [.int t1, .int t0]) := by
  unfold vv_X7_torn_J170 at hd
  refine lv_iadd K.1 K.2.1 dX7_torn_170 ?_
  refine lv_topi (fun x5_32 ex5_32 => ?_)
  have hd := hd x5_32 ex5_32
  refine lv_istore (lv' := [(5, .int x5_32), (0, .ref (ad 0)), (2, .int x2), (3, .int x3), (4, .int x4), (6, .int x6)]) K.1 K.2.1 dX7_torn_171 hl (by decide) rfl (fun ls hl => ?_)
  exact bb_X7_torn_173 K KX hr  hrc60 x2 x3 x4 x5_32 x6 g0 _ _ _  hd hw (lv_sub hl [1, 2, 3, 4, 0, 5] rfl)
set_option maxHeartbeats 4000000 in
set_option maxRecDepth 100000 in
theorem bb_X7_torn_147 {p : Program} {l : Launch} {e : Env} {s : State} {m : MethodId} {args : Array Value} {below : List Frame} {meth : Method} {c : Code} {D : va_G} {cy : Nat → ClassId} {nt : Nat} {ad : Nat → Nat} {A : Nat → Prop} {X : Nat → Nat} {Q : Int32 → Sg → Prop} (K : Kx p s m args meth c cX7_torn 8 RX7 D cy) (KX : XC X A s s.heap) (hr : meth.sig.returnType = (some .int))  {rc60 : Int32 → Int32 → Int32 → Int32 → Int32 → Sg → Prop} (hrc60 : ∀ (x2 : Int32) (x3 : Int32) (x4 : Int32) (x5 : Int32) (x6 : Int32) (u : Sg) (H : Heap) (locs : List Loc) (ls : Array Slot), rc60 x2 x3 x4 x5 x6 u → Wd D A s.heap (wsC cy nt ad u) H locs → lv_has ls 8 [(0, .ref (ad 0)), (2, .int x2), (3, .int x3), (4, .int x4), (5, .int x5), (6, .int x6)] → W p l e (rmD 6) s m args below meth c H locs 0 0 (MQ below (va_Qi Q (PostG (wsC cy nt ad) D A) A) args s 0 0 A) (F0 m 60 ls [])) (x2 : Int32) (x3 : Int32) (x4 : Int32) (x6 : Int32) (x7 : Int32) (t0 : Int32) (t1 : Int32) (g0 : Sg) (H : Heap) (locs : List Loc) (ls : Array Slot) (hd : vv_X7_torn_J147 nt rc60 x2 x3 x4 x6 x7 t0 t1 g0 Q) (hw : Wd D A s.heap (wsC cy nt ad g0) H locs) (hl : lv_has ls 8 [(0, .ref (ad 0)), (2, .int x2), (3, .int x3), (4, .int x4), (6, .int x6), (7, .int x7)]) : W p l e (rmD 6) s m args below meth c H locs 0 0 (MQ below (va_Qi Q (PostG (wsC cy nt ad) D A) A) args s 0 0 A) (F0 m 147 ls [.int t1, .int t0]) := by
  unfold vv_X7_torn_J147 at hd
  refine lv_iadd K.1 K.2.1 dX7_torn_147 ?_
  refine lv_topi (fun x5_28 ex5_28 => ?_)
  have hd := hd x5_28 ex5_28
  refine lv_istore (lv' := [(5, .int x5_28), (0, .ref (ad 0)), (2, .int x2), (3, .int x3), (4, .int x4), (6, .int x6), (7, .int x7)]) K.1 K.2.1 dX7_torn_148 hl (by decide) rfl (fun ls hl => ?_)
  refine lv_iload K.1 K.2.1 dX7_torn_150 (lv_at hl 0 rfl) ?_
  refine lv_aload_n K.1 K.2.1 dX7_torn_152 rfl (lv_at hl 1 rfl) ?_
  refine lv_iload K.1 K.2.1 dX7_torn_153 (lv_at hl 6 rfl) ?_
  refine lv_iload_n K.1 K.2.1 dX7_torn_155 rfl (lv_at hl 3 rfl) ?_
  refine lv_iadd K.1 K.2.1 dX7_torn_156 ?_
  refine lv_iload K.1 K.2.1 dX7_torn_157 (lv_at hl 4 rfl) ?_
  refine rkc_vi (As := [.int (x7 + x3), .int x4]) (rest := [.int x5_28]) K KX hw (cc_X7_decides l D cy nt ad A X g0 _ (x7 + x3) x4 hd) lk_X7_227 (ci := 7) rfl (wc_O cy nt ad _) ⟨Nat.le_of_ble_eq_true rfl, Nat.le_of_ble_eq_true rfl⟩ ⟨Nat.zero_le _, Nat.zero_le _⟩ rfl hl.1 (Nat.le_of_ble_eq_true rfl) rfl dX7_torn_159 (fun r_30 g_29 H locs hd hw => ?_)
  refine lv_if_eq (tgt := 169) K.1 K.2.1 dX7_torn_162 (by decide) (fun h_31 => ?_) (fun h_31 => ?_)
  · have hd := hd.1 h_31
    refine lv_iconst (v := (0 : Int32)) K.1 K.2.1 dX7_torn_169 (by decide) ?_
    exact bb_X7_torn_170 K KX hr  hrc60 x2 x3 x4 x6 x5_28 (0 : Int32) g_29 _ _ _  hd hw (lv_sub hl [1, 2, 3, 4, 5] rfl)
  · have hd := hd.2 h_31
    refine lv_iconst (v := (1 : Int32)) K.1 K.2.1 dX7_torn_165 (by decide) ?_
    refine lv_goto (tgt := 170) K.1 K.2.1 dX7_torn_166 (by decide) ?_
    exact bb_X7_torn_170 K KX hr  hrc60 x2 x3 x4 x6 x5_28 (1 : Int32) g_29 _ _ _  hd hw (lv_sub hl [1, 2, 3, 4, 5] rfl)
set_option maxHeartbeats 4000000 in
set_option maxRecDepth 100000 in
theorem bb_X7_torn_126 {p : Program} {l : Launch} {e : Env} {s : State} {m : MethodId} {args : Array Value} {below : List Frame} {meth : Method} {c : Code} {D : va_G} {cy : Nat → ClassId} {nt : Nat} {ad : Nat → Nat} {A : Nat → Prop} {X : Nat → Nat} {Q : Int32 → Sg → Prop} (K : Kx p s m args meth c cX7_torn 8 RX7 D cy) (KX : XC X A s s.heap) (hr : meth.sig.returnType = (some .int))  {rc60 : Int32 → Int32 → Int32 → Int32 → Int32 → Sg → Prop} (hrc60 : ∀ (x2 : Int32) (x3 : Int32) (x4 : Int32) (x5 : Int32) (x6 : Int32) (u : Sg) (H : Heap) (locs : List Loc) (ls : Array Slot), rc60 x2 x3 x4 x5 x6 u → Wd D A s.heap (wsC cy nt ad u) H locs → lv_has ls 8 [(0, .ref (ad 0)), (2, .int x2), (3, .int x3), (4, .int x4), (5, .int x5), (6, .int x6)] → W p l e (rmD 6) s m args below meth c H locs 0 0 (MQ below (va_Qi Q (PostG (wsC cy nt ad) D A) A) args s 0 0 A) (F0 m 60 ls [])) (x2 : Int32) (x3 : Int32) (x4 : Int32) (x6 : Int32) (x7 : Int32) (t0 : Int32) (t1 : Int32) (g0 : Sg) (H : Heap) (locs : List Loc) (ls : Array Slot) (hd : vv_X7_torn_J126 nt rc60 x2 x3 x4 x6 x7 t0 t1 g0 Q) (hw : Wd D A s.heap (wsC cy nt ad g0) H locs) (hl : lv_has ls 8 [(0, .ref (ad 0)), (2, .int x2), (3, .int x3), (4, .int x4), (6, .int x6), (7, .int x7)]) : W p l e (rmD 6) s m args below meth c H locs 0 0 (MQ below (va_Qi Q (PostG (wsC cy nt ad) D A) A) args s 0 0 A) (F0 m 126 ls [.int t1, .int t0]) := by
  unfold vv_X7_torn_J126 at hd
  refine lv_iadd K.1 K.2.1 dX7_torn_126 ?_
  refine lv_topi (fun x5_24 ex5_24 => ?_)
  have hd := hd x5_24 ex5_24
  refine lv_istore (lv' := [(5, .int x5_24), (0, .ref (ad 0)), (2, .int x2), (3, .int x3), (4, .int x4), (6, .int x6), (7, .int x7)]) K.1 K.2.1 dX7_torn_127 hl (by decide) rfl (fun ls hl => ?_)
  refine lv_iload K.1 K.2.1 dX7_torn_129 (lv_at hl 0 rfl) ?_
  refine lv_aload_n K.1 K.2.1 dX7_torn_131 rfl (lv_at hl 1 rfl) ?_
  refine lv_iload K.1 K.2.1 dX7_torn_132 (lv_at hl 6 rfl) ?_
  refine lv_iload K.1 K.2.1 dX7_torn_134 (lv_at hl 4 rfl) ?_
  refine rkc_vi (As := [.int x7, .int x4]) (rest := [.int x5_24]) K KX hw (cc_X7_decides l D cy nt ad A X g0 _ x7 x4 hd) lk_X7_227 (ci := 7) rfl (wc_O cy nt ad _) ⟨Nat.le_of_ble_eq_true rfl, Nat.le_of_ble_eq_true rfl⟩ ⟨Nat.zero_le _, Nat.zero_le _⟩ rfl hl.1 (Nat.le_of_ble_eq_true rfl) rfl dX7_torn_136 (fun r_26 g_25 H locs hd hw => ?_)
  refine lv_if_eq (tgt := 146) K.1 K.2.1 dX7_torn_139 (by decide) (fun h_27 => ?_) (fun h_27 => ?_)
  · have hd := hd.1 h_27
    refine lv_iconst (v := (0 : Int32)) K.1 K.2.1 dX7_torn_146 (by decide) ?_
    exact bb_X7_torn_147 K KX hr  hrc60 x2 x3 x4 x6 x7 x5_24 (0 : Int32) g_25 _ _ _  hd hw (lv_sub hl [1, 2, 3, 4, 5, 6] rfl)
  · have hd := hd.2 h_27
    refine lv_iconst (v := (1 : Int32)) K.1 K.2.1 dX7_torn_142 (by decide) ?_
    refine lv_goto (tgt := 147) K.1 K.2.1 dX7_torn_143 (by decide) ?_
    exact bb_X7_torn_147 K KX hr  hrc60 x2 x3 x4 x6 x7 x5_24 (1 : Int32) g_25 _ _ _  hd hw (lv_sub hl [1, 2, 3, 4, 5, 6] rfl)
set_option maxHeartbeats 4000000 in
set_option maxRecDepth 100000 in
theorem bb_X7_torn_103 {p : Program} {l : Launch} {e : Env} {s : State} {m : MethodId} {args : Array Value} {below : List Frame} {meth : Method} {c : Code} {D : va_G} {cy : Nat → ClassId} {nt : Nat} {ad : Nat → Nat} {A : Nat → Prop} {X : Nat → Nat} {Q : Int32 → Sg → Prop} (K : Kx p s m args meth c cX7_torn 8 RX7 D cy) (KX : XC X A s s.heap) (hr : meth.sig.returnType = (some .int))  {rc60 : Int32 → Int32 → Int32 → Int32 → Int32 → Sg → Prop} (hrc60 : ∀ (x2 : Int32) (x3 : Int32) (x4 : Int32) (x5 : Int32) (x6 : Int32) (u : Sg) (H : Heap) (locs : List Loc) (ls : Array Slot), rc60 x2 x3 x4 x5 x6 u → Wd D A s.heap (wsC cy nt ad u) H locs → lv_has ls 8 [(0, .ref (ad 0)), (2, .int x2), (3, .int x3), (4, .int x4), (5, .int x5), (6, .int x6)] → W p l e (rmD 6) s m args below meth c H locs 0 0 (MQ below (va_Qi Q (PostG (wsC cy nt ad) D A) A) args s 0 0 A) (F0 m 60 ls [])) (x2 : Int32) (x3 : Int32) (x4 : Int32) (x6 : Int32) (x7 : Int32) (t0 : Int32) (t1 : Int32) (g0 : Sg) (H : Heap) (locs : List Loc) (ls : Array Slot) (hd : vv_X7_torn_J103 nt rc60 x2 x3 x4 x6 x7 t0 t1 g0 Q) (hw : Wd D A s.heap (wsC cy nt ad g0) H locs) (hl : lv_has ls 8 [(0, .ref (ad 0)), (2, .int x2), (3, .int x3), (4, .int x4), (6, .int x6), (7, .int x7)]) : W p l e (rmD 6) s m args below meth c H locs 0 0 (MQ below (va_Qi Q (PostG (wsC cy nt ad) D A) A) args s 0 0 A) (F0 m 103 ls [.int t1, .int t0]) := by
  unfold vv_X7_torn_J103 at hd
  refine lv_iadd K.1 K.2.1 dX7_torn_103 ?_
  refine lv_topi (fun x5_20 ex5_20 => ?_)
  have hd := hd x5_20 ex5_20
  refine lv_istore (lv' := [(5, .int x5_20), (0, .ref (ad 0)), (2, .int x2), (3, .int x3), (4, .int x4), (6, .int x6), (7, .int x7)]) K.1 K.2.1 dX7_torn_104 hl (by decide) rfl (fun ls hl => ?_)
  refine lv_iload K.1 K.2.1 dX7_torn_106 (lv_at hl 0 rfl) ?_
  refine lv_aload_n K.1 K.2.1 dX7_torn_108 rfl (lv_at hl 1 rfl) ?_
  refine lv_iload K.1 K.2.1 dX7_torn_109 (lv_at hl 6 rfl) ?_
  refine lv_iload K.1 K.2.1 dX7_torn_111 (lv_at hl 4 rfl) ?_
  refine lv_iadd K.1 K.2.1 dX7_torn_113 ?_
  refine lv_iload_n K.1 K.2.1 dX7_torn_114 rfl (lv_at hl 3 rfl) ?_
  refine rkc_vi (As := [.int (x7 + x4), .int x3]) (rest := [.int x5_20]) K KX hw (cc_X7_decides l D cy nt ad A X g0 _ (x7 + x4) x3 hd) lk_X7_227 (ci := 7) rfl (wc_O cy nt ad _) ⟨Nat.le_of_ble_eq_true rfl, Nat.le_of_ble_eq_true rfl⟩ ⟨Nat.zero_le _, Nat.zero_le _⟩ rfl hl.1 (Nat.le_of_ble_eq_true rfl) rfl dX7_torn_115 (fun r_22 g_21 H locs hd hw => ?_)
  refine lv_if_eq (tgt := 125) K.1 K.2.1 dX7_torn_118 (by decide) (fun h_23 => ?_) (fun h_23 => ?_)
  · have hd := hd.1 h_23
    refine lv_iconst (v := (0 : Int32)) K.1 K.2.1 dX7_torn_125 (by decide) ?_
    exact bb_X7_torn_126 K KX hr  hrc60 x2 x3 x4 x6 x7 x5_20 (0 : Int32) g_21 _ _ _  hd hw (lv_sub hl [1, 2, 3, 4, 5, 6] rfl)
  · have hd := hd.2 h_23
    refine lv_iconst (v := (1 : Int32)) K.1 K.2.1 dX7_torn_121 (by decide) ?_
    refine lv_goto (tgt := 126) K.1 K.2.1 dX7_torn_122 (by decide) ?_
    exact bb_X7_torn_126 K KX hr  hrc60 x2 x3 x4 x6 x7 x5_20 (1 : Int32) g_21 _ _ _  hd hw (lv_sub hl [1, 2, 3, 4, 5, 6] rfl)
set_option maxHeartbeats 4000000 in
set_option maxRecDepth 100000 in
theorem bb_X7_torn_60 {p : Program} {l : Launch} {e : Env} {s : State} {m : MethodId} {args : Array Value} {below : List Frame} {meth : Method} {c : Code} {D : va_G} {cy : Nat → ClassId} {nt : Nat} {ad : Nat → Nat} {A : Nat → Prop} {X : Nat → Nat} {Q : Int32 → Sg → Prop} (K : Kx p s m args meth c cX7_torn 8 RX7 D cy) (KX : XC X A s s.heap) (hr : meth.sig.returnType = (some .int))  : ∀ (n : Nat) (x2 : Int32) (x3 : Int32) (x4 : Int32) (x5 : Int32) (x6 : Int32)  (g0 : Sg) (H : Heap) (locs : List Loc) (ls : Array Slot), vv_X7_torn_L60 nt Q n x2 x3 x4 x5 x6 g0 → Wd D A s.heap (wsC cy nt ad g0) H locs → lv_has ls 8 [(0, .ref (ad 0)), (2, .int x2), (3, .int x3), (4, .int x4), (5, .int x5), (6, .int x6)] → W p l e (rmD 6) s m args below meth c H locs 0 0 (MQ below (va_Qi Q (PostG (wsC cy nt ad) D A) A) args s 0 0 A) (F0 m 60 ls []) := by
  intro n
  induction n with
  | zero => intro _ _ _ _ _ _ _ _ _ hd; exact hd.elim
  | succ n ih =>
    intro x2 x3 x4 x5 x6 g0 H locs ls  hd hw hl
    unfold vv_X7_torn_L60 at hd
    refine lv_iload K.1 K.2.1 dX7_torn_60 (lv_at hl 5 rfl) ?_
    refine lv_iload_n K.1 K.2.1 dX7_torn_62 rfl (lv_at hl 1 rfl) ?_
    refine lv_icmp_gt (tgt := 179) K.1 K.2.1 dX7_torn_63 (by decide) (fun h_11 => ?_) (fun h_11 => ?_)
    · have hd := hd.1 h_11
      refine lv_iload K.1 K.2.1 dX7_torn_179 (lv_at hl 4 rfl) ?_
      exact rk_iret K hw hr hd dX7_torn_181
    · have hd := hd.2 h_11
      refine lv_iload K.1 K.2.1 dX7_torn_66 (lv_at hl 5 rfl) ?_
      refine lv_iload_n K.1 K.2.1 dX7_torn_68 rfl (lv_at hl 1 rfl) ?_
      refine lv_iconst (v := (-1 : Int32)) K.1 K.2.1 dX7_torn_69 (by decide) ?_
      refine lv_ixor K.1 K.2.1 dX7_torn_70 ?_
      refine lv_iand K.1 K.2.1 dX7_torn_71 ?_
      refine lv_if_ne (tgt := 173) K.1 K.2.1 dX7_torn_72 (by decide) (fun h_12 => ?_) (fun h_12 => ?_)
      · have hd := hd.1 h_12
        exact bb_X7_torn_173 K KX hr  ih x2 x3 x4 x5 x6 g0 _ _ _  hd hw (lv_sub hl [0, 1, 2, 3, 4, 5] rfl)
      · have hd := hd.2 h_12
        refine lv_aload_n K.1 K.2.1 dX7_torn_75 rfl (lv_at hl 0 rfl) ?_
        refine rc_get layX7 (ci := 7) rfl 10 (by decide) (v := .ref (ad 22)) K hw (wc_O cy nt ad _) kf_X7_60 rfl dX7_torn_76 ?_
        refine lv_iload K.1 K.2.1 dX7_torn_79 (lv_at hl 5 rfl) ?_
        refine rkc_vi (As := [.int x6]) (rest := []) K KX hw (cc_X4_weightOfSet l D cy nt ad A X g0 _ x6 hd) lk_X7_221 (ci := 4) rfl (wc_Ta cy nt ad _) ⟨Nat.le_of_ble_eq_true rfl, Nat.le_of_ble_eq_true rfl⟩ ⟨Nat.zero_le _, Nat.zero_le _⟩ rfl hl.1 (Nat.le_of_ble_eq_true rfl) rfl dX7_torn_81 (fun r_15 g_14 H locs hd hw => ?_)
        refine lv_topi (fun x7_16 ex7_16 => ?_)
        have hd := hd x7_16 ex7_16
        refine lv_istore (lv' := [(7, .int x7_16), (0, .ref (ad 0)), (2, .int x2), (3, .int x3), (4, .int x4), (5, .int x5), (6, .int x6)]) K.1 K.2.1 dX7_torn_84 hl (by decide) rfl (fun ls hl => ?_)
        refine lv_iload K.1 K.2.1 dX7_torn_86 (lv_at hl 5 rfl) ?_
        refine lv_aload_n K.1 K.2.1 dX7_torn_88 rfl (lv_at hl 1 rfl) ?_
        refine lv_iload K.1 K.2.1 dX7_torn_89 (lv_at hl 0 rfl) ?_
        refine lv_iload_n K.1 K.2.1 dX7_torn_91 rfl (lv_at hl 3 rfl) ?_
        refine rkc_vi (As := [.int x7_16, .int x3]) (rest := [.int x5]) K KX hw (cc_X7_decides l D cy nt ad A X g_14 _ x7_16 x3 hd) lk_X7_227 (ci := 7) rfl (wc_O cy nt ad _) ⟨Nat.le_of_ble_eq_true rfl, Nat.le_of_ble_eq_true rfl⟩ ⟨Nat.zero_le _, Nat.zero_le _⟩ rfl hl.1 (Nat.le_of_ble_eq_true rfl) rfl dX7_torn_92 (fun r_18 g_17 H locs hd hw => ?_)
        refine lv_if_eq (tgt := 102) K.1 K.2.1 dX7_torn_95 (by decide) (fun h_19 => ?_) (fun h_19 => ?_)
        · have hd := hd.1 h_19
          refine lv_iconst (v := (0 : Int32)) K.1 K.2.1 dX7_torn_102 (by decide) ?_
          exact bb_X7_torn_103 K KX hr  ih x2 x3 x4 x6 x7_16 x5 (0 : Int32) g_17 _ _ _  hd hw (lv_sub hl [1, 2, 3, 4, 6, 0] rfl)
        · have hd := hd.2 h_19
          refine lv_iconst (v := (1 : Int32)) K.1 K.2.1 dX7_torn_98 (by decide) ?_
          refine lv_goto (tgt := 103) K.1 K.2.1 dX7_torn_99 (by decide) ?_
          exact bb_X7_torn_103 K KX hr  ih x2 x3 x4 x6 x7_16 x5 (1 : Int32) g_17 _ _ _  hd hw (lv_sub hl [1, 2, 3, 4, 6, 0] rfl)
set_option maxHeartbeats 4000000 in
set_option maxRecDepth 100000 in
theorem cc_X7_torn (l : Launch) (D : va_G) (cy : Nat → ClassId) (nt : Nat) (ad : Nat → Nat) (A : Nat → Prop) (X : Nat → Nat)  (g0 : Sg) (Q : Int32 → Sg → Prop) (x1 : Int32) (hd : vv_X7_torn nt x1 g0 Q) : Met l yX7_torn (Cond.code yX7_torn cX7_torn 8 (some .int) :: TT) (rmD 6) (va_Pc [.ref (ad 0), .int x1] (PreC (wsC cy nt ad) D cy A X g0)) (va_Qi Q (PostG (wsC cy nt ad) D A) A) 0 0 A := by
  unfold vv_X7_torn at hd
  refine Met.ofW (cc := cX7_torn) (maxL := 8) (ret := (some .int)) (by decide) rfl ?_
  intro p e s m args below meth c s₁ B hml hv
  obtain ⟨rfl, ⟨hP, hK0, hD⟩, KX⟩ := hv
  have K : Kx p s m _ meth c cX7_torn 8 RX7 D cy := ⟨B.exec, B.bytes, hml, findClass_of_methodNamed B.named, fun w h => atoms_spec (ws := Cond.code yX7_torn cX7_torn 8 (some .int) :: TT) B.pre w (List.mem_cons_of_mem _ h), hK0, B.notSynchronized⟩
  have hw : Wd D A s.heap (wsC cy nt ad g0) s.heap [] := ⟨hP, hD, va_S.rf⟩
  have hr := B.returns
  have hl := lv_entry ([.ref (ad 0), .int x1]) (n := 8) (Nat.le_of_ble_eq_true rfl)
  rw [lg_entry_eq]
  generalize (lg_sl ([.ref (ad 0), .int x1]) ++ List.replicate (8 - (lg_sl ([.ref (ad 0), .int x1])).length) Slot.unset).toArray = ls at hl ⊢
  have hl : lv_has ls 8 [(0, .ref (ad 0)), (1, .int x1)] := hl
  refine lv_aload_n K.1 K.2.1 dX7_torn_0 rfl (lv_at hl 0 rfl) ?_
  refine lv_iload_n K.1 K.2.1 dX7_torn_1 rfl (lv_at hl 1 rfl) ?_
  refine rkc_vi (As := [.int x1]) (rest := []) K KX hw (cc_X7_stands l D cy nt ad A X g0 _ x1 hd) lk_X7_212 (ci := 7) rfl (wc_O cy nt ad _) ⟨Nat.le_of_ble_eq_true rfl, Nat.le_of_ble_eq_true rfl⟩ ⟨Nat.zero_le _, Nat.zero_le _⟩ rfl hl.1 (Nat.le_of_ble_eq_true rfl) rfl dX7_torn_2 (fun r_2 g_1 H locs hd hw => ?_)
  refine lv_if_ne (tgt := 11) K.1 K.2.1 dX7_torn_5 (by decide) (fun h_3 => ?_) (fun h_3 => ?_)
  · have hd := hd.1 h_3
    refine lv_aload_n K.1 K.2.1 dX7_torn_11 rfl (lv_at hl 0 rfl) ?_
    refine rkc_vv (As := []) (rest := []) K KX hw (cc_X7_weighCoalitions l D cy nt ad A X g_1 _  hd) lk_X7_215 (ci := 7) rfl (wc_O cy nt ad _) ⟨Nat.le_of_ble_eq_true rfl, Nat.le_of_ble_eq_true rfl⟩ ⟨Nat.zero_le _, Nat.zero_le _⟩ rfl hl.1 (Nat.le_of_ble_eq_true rfl) rfl dX7_torn_12 (fun g_4 H locs hd hw => ?_)
    refine lv_aload_n K.1 K.2.1 dX7_torn_15 rfl (lv_at hl 0 rfl) ?_
    refine rc_get layX7 (ci := 7) rfl 10 (by decide) (v := .ref (ad 22)) K hw (wc_O cy nt ad _) kf_X7_60 rfl dX7_torn_16 ?_
    refine rc_get layX4 (ci := 4) rfl 2 (by decide) (v := .int (g_4 22 2)) K hw (wc_Ta cy nt ad _) kf_X7_218 rfl dX7_torn_19 ?_
    refine lv_iconst (v := (1 : Int32)) K.1 K.2.1 dX7_torn_22 (by decide) ?_
    refine lv_iload_n K.1 K.2.1 dX7_torn_23 rfl (lv_at hl 1 rfl) ?_
    refine lv_ishl K.1 K.2.1 dX7_torn_24 ?_
    refine lv_iconst (v := (-1 : Int32)) K.1 K.2.1 dX7_torn_25 (by decide) ?_
    refine lv_ixor K.1 K.2.1 dX7_torn_26 ?_
    refine lv_iand K.1 K.2.1 dX7_torn_27 ?_
    refine lv_topi (fun x2_6 ex2_6 => ?_)
    have hd := hd x2_6 ex2_6
    refine lv_istore_n (lv' := [(2, .int x2_6), (0, .ref (ad 0)), (1, .int x1)]) K.1 K.2.1 dX7_torn_28 rfl hl (by decide) rfl (fun ls hl => ?_)
    refine lv_aload_n K.1 K.2.1 dX7_torn_29 rfl (lv_at hl 1 rfl) ?_
    refine rc_get layX7 (ci := 7) rfl 10 (by decide) (v := .ref (ad 22)) K hw (wc_O cy nt ad _) kf_X7_60 rfl dX7_torn_30 ?_
    refine rc_get layX4 (ci := 4) rfl 3 (by decide) (v := .ref (ad 23)) K hw (wc_Ta cy nt ad _) kf_X7_224 rfl dX7_torn_33 ?_
    refine lv_iload_n K.1 K.2.1 dX7_torn_36 rfl (lv_at hl 2 rfl) ?_
    have hb := hd.1
    have hd := hd.2
    refine rc_iald K hw (wc_23 cy nt ad _) hb dX7_torn_37 ?_
    refine lv_iconst (v := (2 : Int32)) K.1 K.2.1 dX7_torn_38 (by decide) ?_
    refine lv_idiv K.1 K.2.1 dX7_torn_39 (by decide) ?_
    refine lv_topi (fun x3_7 ex3_7 => ?_)
    have hd := hd x3_7 ex3_7
    refine lv_istore_n (lv' := [(3, .int x3_7), (2, .int x2_6), (0, .ref (ad 0)), (1, .int x1)]) K.1 K.2.1 dX7_torn_40 rfl hl (by decide) rfl (fun ls hl => ?_)
    refine lv_aload_n K.1 K.2.1 dX7_torn_41 rfl (lv_at hl 2 rfl) ?_
    refine rc_get layX7 (ci := 7) rfl 10 (by decide) (v := .ref (ad 22)) K hw (wc_O cy nt ad _) kf_X7_60 rfl dX7_torn_42 ?_
    refine rc_get layX4 (ci := 4) rfl 3 (by decide) (v := .ref (ad 23)) K hw (wc_Ta cy nt ad _) kf_X7_224 rfl dX7_torn_45 ?_
    refine lv_iload_n K.1 K.2.1 dX7_torn_48 rfl (lv_at hl 3 rfl) ?_
    have hb := hd.1
    have hd := hd.2
    refine rc_iald K hw (wc_23 cy nt ad _) hb dX7_torn_49 ?_
    refine lv_iload_n K.1 K.2.1 dX7_torn_50 rfl (lv_at hl 0 rfl) ?_
    refine lv_isub K.1 K.2.1 dX7_torn_51 ?_
    refine lv_topi (fun x4_8 ex4_8 => ?_)
    have hd := hd x4_8 ex4_8
    refine lv_istore (lv' := [(4, .int x4_8), (3, .int x3_7), (2, .int x2_6), (0, .ref (ad 0)), (1, .int x1)]) K.1 K.2.1 dX7_torn_52 hl (by decide) rfl (fun ls hl => ?_)
    refine lv_iconst (v := (0 : Int32)) K.1 K.2.1 dX7_torn_54 (by decide) ?_
    refine lv_topi (fun x5_9 ex5_9 => ?_)
    have hd := hd x5_9 ex5_9
    refine lv_istore (lv' := [(5, .int x5_9), (4, .int x4_8), (3, .int x3_7), (2, .int x2_6), (0, .ref (ad 0)), (1, .int x1)]) K.1 K.2.1 dX7_torn_55 hl (by decide) rfl (fun ls hl => ?_)
    refine lv_iconst (v := (0 : Int32)) K.1 K.2.1 dX7_torn_57 (by decide) ?_
    refine lv_topi (fun x6_10 ex6_10 => ?_)
    have hd := hd x6_10 ex6_10
    refine lv_istore (lv' := [(6, .int x6_10), (5, .int x5_9), (4, .int x4_8), (3, .int x3_7), (2, .int x2_6), (0, .ref (ad 0)), (1, .int x1)]) K.1 K.2.1 dX7_torn_58 hl (by decide) rfl (fun ls hl => ?_)
    obtain ⟨n9, hd⟩ := hd
    exact bb_X7_torn_60 K KX hr   n9 x2_6 x3_7 x4_8 x5_9 x6_10 g_4 _ _ _  hd hw (lv_sub hl [5, 4, 3, 2, 1, 0] rfl)
  · have hd := hd.2 h_3
    refine lv_bipush (v := (-2 : Int32)) K.1 K.2.1 dX7_torn_8 (by decide) ?_
    exact rk_iret K hw hr hd dX7_torn_10
theorem dX7_fewest_0 : decode cX7_fewest 0 = .ok (.iload_n 1, 1) := by decide +kernel
theorem dX7_fewest_1 : decode cX7_fewest 1 = .ok (.ifCond .lt 8, 3) := by decide +kernel
theorem dX7_fewest_4 : decode cX7_fewest 4 = .ok (.iload_n 1, 1) := by decide +kernel
theorem dX7_fewest_5 : decode cX7_fewest 5 = .ok (.iconst 2, 1) := by decide +kernel
theorem dX7_fewest_6 : decode cX7_fewest 6 = .ok (.if_icmp .le 6, 3) := by decide +kernel
theorem dX7_fewest_9 : decode cX7_fewest 9 = .ok (.bipush (-2), 2) := by decide +kernel
theorem dX7_fewest_11 : decode cX7_fewest 11 = .ok (.ireturn, 1) := by decide +kernel
theorem dX7_fewest_12 : decode cX7_fewest 12 = .ok (.aload_n 0, 1) := by decide +kernel
theorem dX7_fewest_13 : decode cX7_fewest 13 = .ok (.invokevirtual 215, 3) := by decide +kernel
theorem dX7_fewest_16 : decode cX7_fewest 16 = .ok (.iconst (-1), 1) := by decide +kernel
theorem dX7_fewest_17 : decode cX7_fewest 17 = .ok (.istore_n 2, 1) := by decide +kernel
theorem dX7_fewest_18 : decode cX7_fewest 18 = .ok (.bipush 9, 2) := by decide +kernel
theorem dX7_fewest_20 : decode cX7_fewest 20 = .ok (.istore_n 3, 1) := by decide +kernel
theorem dX7_fewest_21 : decode cX7_fewest 21 = .ok (.iconst 0, 1) := by decide +kernel
theorem dX7_fewest_22 : decode cX7_fewest 22 = .ok (.istore 4, 2) := by decide +kernel
theorem dX7_fewest_24 : decode cX7_fewest 24 = .ok (.iconst 0, 1) := by decide +kernel
theorem dX7_fewest_25 : decode cX7_fewest 25 = .ok (.istore 5, 2) := by decide +kernel
theorem dX7_fewest_27 : decode cX7_fewest 27 = .ok (.iload 5, 2) := by decide +kernel
theorem dX7_fewest_29 : decode cX7_fewest 29 = .ok (.aload_n 0, 1) := by decide +kernel
theorem dX7_fewest_30 : decode cX7_fewest 30 = .ok (.getfield 60, 3) := by decide +kernel
theorem dX7_fewest_33 : decode cX7_fewest 33 = .ok (.getfield 218, 3) := by decide +kernel
theorem dX7_fewest_36 : decode cX7_fewest 36 = .ok (.if_icmp .gt 64, 3) := by decide +kernel
theorem dX7_fewest_39 : decode cX7_fewest 39 = .ok (.iload 5, 2) := by decide +kernel
theorem dX7_fewest_41 : decode cX7_fewest 41 = .ok (.aload_n 0, 1) := by decide +kernel
theorem dX7_fewest_42 : decode cX7_fewest 42 = .ok (.getfield 60, 3) := by decide +kernel
theorem dX7_fewest_45 : decode cX7_fewest 45 = .ok (.getfield 218, 3) := by decide +kernel
theorem dX7_fewest_48 : decode cX7_fewest 48 = .ok (.iconst (-1), 1) := by decide +kernel
theorem dX7_fewest_49 : decode cX7_fewest 49 = .ok (.ixor, 1) := by decide +kernel
theorem dX7_fewest_50 : decode cX7_fewest 50 = .ok (.iand, 1) := by decide +kernel
theorem dX7_fewest_51 : decode cX7_fewest 51 = .ok (.ifCond .ne 43, 3) := by decide +kernel
theorem dX7_fewest_54 : decode cX7_fewest 54 = .ok (.aload_n 0, 1) := by decide +kernel
theorem dX7_fewest_55 : decode cX7_fewest 55 = .ok (.getfield 60, 3) := by decide +kernel
theorem dX7_fewest_58 : decode cX7_fewest 58 = .ok (.iload 5, 2) := by decide +kernel
theorem dX7_fewest_60 : decode cX7_fewest 60 = .ok (.invokevirtual 221, 3) := by decide +kernel
theorem dX7_fewest_63 : decode cX7_fewest 63 = .ok (.aload_n 0, 1) := by decide +kernel
theorem dX7_fewest_64 : decode cX7_fewest 64 = .ok (.getfield 10, 3) := by decide +kernel
theorem dX7_fewest_67 : decode cX7_fewest 67 = .ok (.getfield 103, 3) := by decide +kernel
theorem dX7_fewest_70 : decode cX7_fewest 70 = .ok (.if_icmp .lt 24, 3) := by decide +kernel
theorem dX7_fewest_73 : decode cX7_fewest 73 = .ok (.iinc 4 1, 3) := by decide +kernel
theorem dX7_fewest_76 : decode cX7_fewest 76 = .ok (.iload 5, 2) := by decide +kernel
theorem dX7_fewest_78 : decode cX7_fewest 78 = .ok (.invokestatic 207, 3) := by decide +kernel
theorem dX7_fewest_81 : decode cX7_fewest 81 = .ok (.iload_n 3, 1) := by decide +kernel
theorem dX7_fewest_82 : decode cX7_fewest 82 = .ok (.if_icmp .ge 12, 3) := by decide +kernel
theorem dX7_fewest_85 : decode cX7_fewest 85 = .ok (.iload 5, 2) := by decide +kernel
theorem dX7_fewest_87 : decode cX7_fewest 87 = .ok (.invokestatic 207, 3) := by decide +kernel
theorem dX7_fewest_90 : decode cX7_fewest 90 = .ok (.istore_n 3, 1) := by decide +kernel
theorem dX7_fewest_91 : decode cX7_fewest 91 = .ok (.iload 5, 2) := by decide +kernel
theorem dX7_fewest_93 : decode cX7_fewest 93 = .ok (.istore_n 2, 1) := by decide +kernel
theorem dX7_fewest_94 : decode cX7_fewest 94 = .ok (.iinc 5 1, 3) := by decide +kernel
theorem dX7_fewest_97 : decode cX7_fewest 97 = .ok (.goto (-70), 3) := by decide +kernel
theorem dX7_fewest_100 : decode cX7_fewest 100 = .ok (.iload_n 1, 1) := by decide +kernel
theorem dX7_fewest_101 : decode cX7_fewest 101 = .ok (.iconst 2, 1) := by decide +kernel
theorem dX7_fewest_102 : decode cX7_fewest 102 = .ok (.if_icmp .ne 6, 3) := by decide +kernel
theorem dX7_fewest_105 : decode cX7_fewest 105 = .ok (.iload 4, 2) := by decide +kernel
theorem dX7_fewest_107 : decode cX7_fewest 107 = .ok (.ireturn, 1) := by decide +kernel
theorem dX7_fewest_108 : decode cX7_fewest 108 = .ok (.iload_n 1, 1) := by decide +kernel
theorem dX7_fewest_109 : decode cX7_fewest 109 = .ok (.ifCond .eq 8, 3) := by decide +kernel
theorem dX7_fewest_112 : decode cX7_fewest 112 = .ok (.iload_n 2, 1) := by decide +kernel
theorem dX7_fewest_113 : decode cX7_fewest 113 = .ok (.iconst (-1), 1) := by decide +kernel
theorem dX7_fewest_114 : decode cX7_fewest 114 = .ok (.if_icmp .ne 7, 3) := by decide +kernel
theorem dX7_fewest_117 : decode cX7_fewest 117 = .ok (.iload_n 2, 1) := by decide +kernel
theorem dX7_fewest_118 : decode cX7_fewest 118 = .ok (.goto 4, 3) := by decide +kernel
theorem dX7_fewest_121 : decode cX7_fewest 121 = .ok (.iload_n 3, 1) := by decide +kernel
theorem dX7_fewest_122 : decode cX7_fewest 122 = .ok (.ireturn, 1) := by decide +kernel
set_option maxHeartbeats 4000000 in
set_option maxRecDepth 100000 in
theorem bb_X7_fewest_117 {p : Program} {l : Launch} {e : Env} {s : State} {m : MethodId} {args : Array Value} {below : List Frame} {meth : Method} {c : Code} {D : va_G} {cy : Nat → ClassId} {nt : Nat} {ad : Nat → Nat} {A : Nat → Prop} {X : Nat → Nat} {Q : Int32 → Sg → Prop} (K : Kx p s m args meth c cX7_fewest 6 RX7 D cy) (KX : XC X A s s.heap) (hr : meth.sig.returnType = (some .int))  (x2 : Int32)  (g0 : Sg) (H : Heap) (locs : List Loc) (ls : Array Slot) (hd : vv_X7_fewest_J117 nt x2 g0 Q) (hw : Wd D A s.heap (wsC cy nt ad g0) H locs) (hl : lv_has ls 6 [(2, .int x2)]) : W p l e (rmD 6) s m args below meth c H locs 0 0 (MQ below (va_Qi Q (PostG (wsC cy nt ad) D A) A) args s 0 0 A) (F0 m 117 ls []) := by
  unfold vv_X7_fewest_J117 at hd
  refine lv_iload_n K.1 K.2.1 dX7_fewest_117 rfl (lv_at hl 0 rfl) ?_
  refine lv_goto (tgt := 122) K.1 K.2.1 dX7_fewest_118 (by decide) ?_
  exact rk_iret K hw hr hd dX7_fewest_122
set_option maxHeartbeats 4000000 in
set_option maxRecDepth 100000 in
theorem bb_X7_fewest_94 {p : Program} {l : Launch} {e : Env} {s : State} {m : MethodId} {args : Array Value} {below : List Frame} {meth : Method} {c : Code} {D : va_G} {cy : Nat → ClassId} {nt : Nat} {ad : Nat → Nat} {A : Nat → Prop} {X : Nat → Nat} {Q : Int32 → Sg → Prop} (K : Kx p s m args meth c cX7_fewest 6 RX7 D cy) (KX : XC X A s s.heap) (hr : meth.sig.returnType = (some .int))  {rc27 : Int32 → Int32 → Int32 → Int32 → Int32 → Sg → Prop} (hrc27 : ∀ (x1 : Int32) (x2 : Int32) (x3 : Int32) (x4 : Int32) (x5 : Int32) (u : Sg) (H : Heap) (locs : List Loc) (ls : Array Slot), rc27 x1 x2 x3 x4 x5 u → Wd D A s.heap (wsC cy nt ad u) H locs → lv_has ls 6 [(0, .ref (ad 0)), (1, .int x1), (2, .int x2), (3, .int x3), (4, .int x4), (5, .int x5)] → W p l e (rmD 6) s m args below meth c H locs 0 0 (MQ below (va_Qi Q (PostG (wsC cy nt ad) D A) A) args s 0 0 A) (F0 m 27 ls [])) (x1 : Int32) (x2 : Int32) (x3 : Int32) (x4 : Int32) (x5 : Int32)  (g0 : Sg) (H : Heap) (locs : List Loc) (ls : Array Slot) (hd : vv_X7_fewest_J94 nt rc27 x1 x2 x3 x4 x5 g0 Q) (hw : Wd D A s.heap (wsC cy nt ad g0) H locs) (hl : lv_has ls 6 [(0, .ref (ad 0)), (1, .int x1), (2, .int x2), (3, .int x3), (4, .int x4), (5, .int x5)]) : W p l e (rmD 6) s m args below meth c H locs 0 0 (MQ below (va_Qi Q (PostG (wsC cy nt ad) D A) A) args s 0 0 A) (F0 m 94 ls []) := by
  unfold vv_X7_fewest_J94 at hd
  obtain ⟨x5_14, ex5_14⟩ : ∃ y : Int32, y = x5 + (1 : Int32) := ⟨_, rfl⟩
  have hd := hd x5_14 ex5_14
  refine lv_iinc (v := x5_14) (lv' := [(5, .int x5_14), (0, .ref (ad 0)), (1, .int x1), (2, .int x2), (3, .int x3), (4, .int x4)]) K.1 K.2.1 dX7_fewest_94 hl (k := 5) rfl (by rw [ex5_14]; rfl) (by decide) rfl (fun ls hl => ?_)
  refine lv_goto (tgt := 27) K.1 K.2.1 dX7_fewest_97 (by decide) ?_
  exact hrc27 x1 x2 x3 x4 x5_14 g0 _ _ _  hd hw (lv_sub hl [1, 2, 3, 4, 5, 0] rfl)
set_option maxHeartbeats 4000000 in
set_option maxRecDepth 100000 in
theorem bb_X7_fewest_27 {p : Program} {l : Launch} {e : Env} {s : State} {m : MethodId} {args : Array Value} {below : List Frame} {meth : Method} {c : Code} {D : va_G} {cy : Nat → ClassId} {nt : Nat} {ad : Nat → Nat} {A : Nat → Prop} {X : Nat → Nat} {Q : Int32 → Sg → Prop} (K : Kx p s m args meth c cX7_fewest 6 RX7 D cy) (KX : XC X A s s.heap) (hr : meth.sig.returnType = (some .int))  : ∀ (n : Nat) (x1 : Int32) (x2 : Int32) (x3 : Int32) (x4 : Int32) (x5 : Int32)  (g0 : Sg) (H : Heap) (locs : List Loc) (ls : Array Slot), vv_X7_fewest_L27 nt Q n x1 x2 x3 x4 x5 g0 → Wd D A s.heap (wsC cy nt ad g0) H locs → lv_has ls 6 [(0, .ref (ad 0)), (1, .int x1), (2, .int x2), (3, .int x3), (4, .int x4), (5, .int x5)] → W p l e (rmD 6) s m args below meth c H locs 0 0 (MQ below (va_Qi Q (PostG (wsC cy nt ad) D A) A) args s 0 0 A) (F0 m 27 ls []) := by
  intro n
  induction n with
  | zero => intro _ _ _ _ _ _ _ _ _ hd; exact hd.elim
  | succ n ih =>
    intro x1 x2 x3 x4 x5 g0 H locs ls  hd hw hl
    unfold vv_X7_fewest_L27 at hd
    refine lv_iload K.1 K.2.1 dX7_fewest_27 (lv_at hl 5 rfl) ?_
    refine lv_aload_n K.1 K.2.1 dX7_fewest_29 rfl (lv_at hl 0 rfl) ?_
    refine rc_get layX7 (ci := 7) rfl 10 (by decide) (v := .ref (ad 22)) K hw (wc_O cy nt ad _) kf_X7_60 rfl dX7_fewest_30 ?_
    refine rc_get layX4 (ci := 4) rfl 2 (by decide) (v := .int (g0 22 2)) K hw (wc_Ta cy nt ad _) kf_X7_218 rfl dX7_fewest_33 ?_
    refine lv_icmp_gt (tgt := 100) K.1 K.2.1 dX7_fewest_36 (by decide) (fun h_9 => ?_) (fun h_9 => ?_)
    · have hd := hd.1 h_9
      refine lv_iload_n K.1 K.2.1 dX7_fewest_100 rfl (lv_at hl 1 rfl) ?_
      refine lv_iconst (v := (2 : Int32)) K.1 K.2.1 dX7_fewest_101 (by decide) ?_
      refine lv_icmp_ne (tgt := 108) K.1 K.2.1 dX7_fewest_102 (by decide) (fun h_10 => ?_) (fun h_10 => ?_)
      · have hd := hd.1 h_10
        refine lv_iload_n K.1 K.2.1 dX7_fewest_108 rfl (lv_at hl 1 rfl) ?_
        refine lv_if_eq (tgt := 117) K.1 K.2.1 dX7_fewest_109 (by decide) (fun h_11 => ?_) (fun h_11 => ?_)
        · have hd := hd.1 h_11
          exact bb_X7_fewest_117 K KX hr   x2 g0 _ _ _  hd hw (lv_sub hl [2] rfl)
        · have hd := hd.2 h_11
          refine lv_iload_n K.1 K.2.1 dX7_fewest_112 rfl (lv_at hl 2 rfl) ?_
          refine lv_iconst (v := (-1 : Int32)) K.1 K.2.1 dX7_fewest_113 (by decide) ?_
          refine lv_icmp_ne (tgt := 121) K.1 K.2.1 dX7_fewest_114 (by decide) (fun h_12 => ?_) (fun h_12 => ?_)
          · have hd := hd.1 h_12
            refine lv_iload_n K.1 K.2.1 dX7_fewest_121 rfl (lv_at hl 3 rfl) ?_
            exact rk_iret K hw hr hd dX7_fewest_122
          · have hd := hd.2 h_12
            exact bb_X7_fewest_117 K KX hr   x2 g0 _ _ _  hd hw (lv_sub hl [2] rfl)
      · have hd := hd.2 h_10
        refine lv_iload K.1 K.2.1 dX7_fewest_105 (lv_at hl 4 rfl) ?_
        exact rk_iret K hw hr hd dX7_fewest_107
    · have hd := hd.2 h_9
      refine lv_iload K.1 K.2.1 dX7_fewest_39 (lv_at hl 5 rfl) ?_
      refine lv_aload_n K.1 K.2.1 dX7_fewest_41 rfl (lv_at hl 0 rfl) ?_
      refine rc_get layX7 (ci := 7) rfl 10 (by decide) (v := .ref (ad 22)) K hw (wc_O cy nt ad _) kf_X7_60 rfl dX7_fewest_42 ?_
      refine rc_get layX4 (ci := 4) rfl 2 (by decide) (v := .int (g0 22 2)) K hw (wc_Ta cy nt ad _) kf_X7_218 rfl dX7_fewest_45 ?_
      refine lv_iconst (v := (-1 : Int32)) K.1 K.2.1 dX7_fewest_48 (by decide) ?_
      refine lv_ixor K.1 K.2.1 dX7_fewest_49 ?_
      refine lv_iand K.1 K.2.1 dX7_fewest_50 ?_
      refine lv_if_ne (tgt := 94) K.1 K.2.1 dX7_fewest_51 (by decide) (fun h_13 => ?_) (fun h_13 => ?_)
      · have hd := hd.1 h_13
        exact bb_X7_fewest_94 K KX hr  ih x1 x2 x3 x4 x5 g0 _ _ _  hd hw (lv_sub hl [0, 1, 2, 3, 4, 5] rfl)
      · have hd := hd.2 h_13
        refine lv_aload_n K.1 K.2.1 dX7_fewest_54 rfl (lv_at hl 0 rfl) ?_
        refine rc_get layX7 (ci := 7) rfl 10 (by decide) (v := .ref (ad 22)) K hw (wc_O cy nt ad _) kf_X7_60 rfl dX7_fewest_55 ?_
        refine lv_iload K.1 K.2.1 dX7_fewest_58 (lv_at hl 5 rfl) ?_
        refine rkc_vi (As := [.int x5]) (rest := []) K KX hw (cc_X4_weightOfSet l D cy nt ad A X g0 _ x5 hd) lk_X7_221 (ci := 4) rfl (wc_Ta cy nt ad _) ⟨Nat.le_of_ble_eq_true rfl, Nat.le_of_ble_eq_true rfl⟩ ⟨Nat.zero_le _, Nat.zero_le _⟩ rfl hl.1 (Nat.le_of_ble_eq_true rfl) rfl dX7_fewest_60 (fun r_16 g_15 H locs hd hw => ?_)
        refine lv_aload_n K.1 K.2.1 dX7_fewest_63 rfl (lv_at hl 0 rfl) ?_
        refine rc_get layX7 (ci := 7) rfl 0 (by decide) (v := .ref (ad 1)) K hw (wc_O cy nt ad _) kf_X7_10 rfl dX7_fewest_64 ?_
        refine rc_get layX0 (ci := 0) rfl 3 (by decide) (v := .int (g_15 1 3)) K hw (wc_B cy nt ad _ ⟨by decide, by decide⟩) kf_X7_103 rfl dX7_fewest_67 ?_
        refine lv_icmp_lt (tgt := 94) K.1 K.2.1 dX7_fewest_70 (by decide) (fun h_17 => ?_) (fun h_17 => ?_)
        · have hd := hd.1 h_17
          exact bb_X7_fewest_94 K KX hr  ih x1 x2 x3 x4 x5 g_15 _ _ _  hd hw (lv_sub hl [0, 1, 2, 3, 4, 5] rfl)
        · have hd := hd.2 h_17
          obtain ⟨x4_18, ex4_18⟩ : ∃ y : Int32, y = x4 + (1 : Int32) := ⟨_, rfl⟩
          have hd := hd x4_18 ex4_18
          refine lv_iinc (v := x4_18) (lv' := [(4, .int x4_18), (0, .ref (ad 0)), (1, .int x1), (2, .int x2), (3, .int x3), (5, .int x5)]) K.1 K.2.1 dX7_fewest_73 hl (k := 4) rfl (by rw [ex4_18]; rfl) (by decide) rfl (fun ls hl => ?_)
          refine lv_iload K.1 K.2.1 dX7_fewest_76 (lv_at hl 5 rfl) ?_
          refine rkc_si (As := [.int x5]) (rest := []) K KX hw (cc_J6_bitCount_0f7a4 l D cy nt ad A X g_15 _ x5 hd) lk_X7_207 ⟨Nat.le_of_ble_eq_true rfl, Nat.le_of_ble_eq_true rfl⟩ ⟨Nat.zero_le _, Nat.zero_le _⟩ rfl hl.1 (Nat.le_of_ble_eq_true rfl) rfl dX7_fewest_78 (fun r_20 g_19 H locs hd hw => ?_)
          refine lv_iload_n K.1 K.2.1 dX7_fewest_81 rfl (lv_at hl 4 rfl) ?_
          refine lv_icmp_ge (tgt := 94) K.1 K.2.1 dX7_fewest_82 (by decide) (fun h_21 => ?_) (fun h_21 => ?_)
          · have hd := hd.1 h_21
            exact bb_X7_fewest_94 K KX hr  ih x1 x2 x3 x4_18 x5 g_19 _ _ _  hd hw (lv_sub hl [1, 2, 3, 4, 0, 5] rfl)
          · have hd := hd.2 h_21
            refine lv_iload K.1 K.2.1 dX7_fewest_85 (lv_at hl 5 rfl) ?_
            refine rkc_si (As := [.int x5]) (rest := []) K KX hw (cc_J6_bitCount_0f7a4 l D cy nt ad A X g_19 _ x5 hd) lk_X7_207 ⟨Nat.le_of_ble_eq_true rfl, Nat.le_of_ble_eq_true rfl⟩ ⟨Nat.zero_le _, Nat.zero_le _⟩ rfl hl.1 (Nat.le_of_ble_eq_true rfl) rfl dX7_fewest_87 (fun r_23 g_22 H locs hd hw => ?_)
            refine lv_topi (fun x3_24 ex3_24 => ?_)
            have hd := hd x3_24 ex3_24
            refine lv_istore_n (lv' := [(3, .int x3_24), (4, .int x4_18), (0, .ref (ad 0)), (1, .int x1), (2, .int x2), (5, .int x5)]) K.1 K.2.1 dX7_fewest_90 rfl hl (by decide) rfl (fun ls hl => ?_)
            refine lv_iload K.1 K.2.1 dX7_fewest_91 (lv_at hl 5 rfl) ?_
            refine lv_topi (fun x2_25 ex2_25 => ?_)
            have hd := hd x2_25 ex2_25
            refine lv_istore_n (lv' := [(2, .int x2_25), (3, .int x3_24), (4, .int x4_18), (0, .ref (ad 0)), (1, .int x1), (5, .int x5)]) K.1 K.2.1 dX7_fewest_93 rfl hl (by decide) rfl (fun ls hl => ?_)
            exact bb_X7_fewest_94 K KX hr  ih x1 x2_25 x3_24 x4_18 x5 g_22 _ _ _  hd hw (lv_sub hl [3, 4, 0, 1, 2, 5] rfl)
set_option maxHeartbeats 4000000 in
set_option maxRecDepth 100000 in
theorem cc_X7_fewest (l : Launch) (D : va_G) (cy : Nat → ClassId) (nt : Nat) (ad : Nat → Nat) (A : Nat → Prop) (X : Nat → Nat)  (g0 : Sg) (Q : Int32 → Sg → Prop) (x1 : Int32) (hd : vv_X7_fewest nt x1 g0 Q) : Met l yX7_fewest (Cond.code yX7_fewest cX7_fewest 6 (some .int) :: TT) (rmD 6) (va_Pc [.ref (ad 0), .int x1] (PreC (wsC cy nt ad) D cy A X g0)) (va_Qi Q (PostG (wsC cy nt ad) D A) A) 0 0 A := by
  unfold vv_X7_fewest at hd
  refine Met.ofW (cc := cX7_fewest) (maxL := 6) (ret := (some .int)) (by decide) rfl ?_
  intro p e s m args below meth c s₁ B hml hv
  obtain ⟨rfl, ⟨hP, hK0, hD⟩, KX⟩ := hv
  have K : Kx p s m _ meth c cX7_fewest 6 RX7 D cy := ⟨B.exec, B.bytes, hml, findClass_of_methodNamed B.named, fun w h => atoms_spec (ws := Cond.code yX7_fewest cX7_fewest 6 (some .int) :: TT) B.pre w (List.mem_cons_of_mem _ h), hK0, B.notSynchronized⟩
  have hw : Wd D A s.heap (wsC cy nt ad g0) s.heap [] := ⟨hP, hD, va_S.rf⟩
  have hr := B.returns
  have hl := lv_entry ([.ref (ad 0), .int x1]) (n := 6) (Nat.le_of_ble_eq_true rfl)
  rw [lg_entry_eq]
  generalize (lg_sl ([.ref (ad 0), .int x1]) ++ List.replicate (6 - (lg_sl ([.ref (ad 0), .int x1])).length) Slot.unset).toArray = ls at hl ⊢
  have hl : lv_has ls 6 [(0, .ref (ad 0)), (1, .int x1)] := hl
  refine lv_iload_n K.1 K.2.1 dX7_fewest_0 rfl (lv_at hl 1 rfl) ?_
  refine lv_if_lt (tgt := 9) K.1 K.2.1 dX7_fewest_1 (by decide) (fun h_1 => ?_) (fun h_1 => ?_)
  · have hd := hd.1 h_1
    refine lv_bipush (v := (-2 : Int32)) K.1 K.2.1 dX7_fewest_9 (by decide) ?_
    exact rk_iret K hw hr hd dX7_fewest_11
  · have hd := hd.2 h_1
    refine lv_iload_n K.1 K.2.1 dX7_fewest_4 rfl (lv_at hl 1 rfl) ?_
    refine lv_iconst (v := (2 : Int32)) K.1 K.2.1 dX7_fewest_5 (by decide) ?_
    refine lv_icmp_le (tgt := 12) K.1 K.2.1 dX7_fewest_6 (by decide) (fun h_2 => ?_) (fun h_2 => ?_)
    · have hd := hd.1 h_2
      refine lv_aload_n K.1 K.2.1 dX7_fewest_12 rfl (lv_at hl 0 rfl) ?_
      refine rkc_vv (As := []) (rest := []) K KX hw (cc_X7_weighCoalitions l D cy nt ad A X g0 _  hd) lk_X7_215 (ci := 7) rfl (wc_O cy nt ad _) ⟨Nat.le_of_ble_eq_true rfl, Nat.le_of_ble_eq_true rfl⟩ ⟨Nat.zero_le _, Nat.zero_le _⟩ rfl hl.1 (Nat.le_of_ble_eq_true rfl) rfl dX7_fewest_13 (fun g_3 H locs hd hw => ?_)
      refine lv_iconst (v := (-1 : Int32)) K.1 K.2.1 dX7_fewest_16 (by decide) ?_
      refine lv_topi (fun x2_5 ex2_5 => ?_)
      have hd := hd x2_5 ex2_5
      refine lv_istore_n (lv' := [(2, .int x2_5), (0, .ref (ad 0)), (1, .int x1)]) K.1 K.2.1 dX7_fewest_17 rfl hl (by decide) rfl (fun ls hl => ?_)
      refine lv_bipush (v := (9 : Int32)) K.1 K.2.1 dX7_fewest_18 (by decide) ?_
      refine lv_topi (fun x3_6 ex3_6 => ?_)
      have hd := hd x3_6 ex3_6
      refine lv_istore_n (lv' := [(3, .int x3_6), (2, .int x2_5), (0, .ref (ad 0)), (1, .int x1)]) K.1 K.2.1 dX7_fewest_20 rfl hl (by decide) rfl (fun ls hl => ?_)
      refine lv_iconst (v := (0 : Int32)) K.1 K.2.1 dX7_fewest_21 (by decide) ?_
      refine lv_topi (fun x4_7 ex4_7 => ?_)
      have hd := hd x4_7 ex4_7
      refine lv_istore (lv' := [(4, .int x4_7), (3, .int x3_6), (2, .int x2_5), (0, .ref (ad 0)), (1, .int x1)]) K.1 K.2.1 dX7_fewest_22 hl (by decide) rfl (fun ls hl => ?_)
      refine lv_iconst (v := (0 : Int32)) K.1 K.2.1 dX7_fewest_24 (by decide) ?_
      refine lv_topi (fun x5_8 ex5_8 => ?_)
      have hd := hd x5_8 ex5_8
      refine lv_istore (lv' := [(5, .int x5_8), (4, .int x4_7), (3, .int x3_6), (2, .int x2_5), (0, .ref (ad 0)), (1, .int x1)]) K.1 K.2.1 dX7_fewest_25 hl (by decide) rfl (fun ls hl => ?_)
      obtain ⟨n9, hd⟩ := hd
      exact bb_X7_fewest_27 K KX hr   n9 x1 x2_5 x3_6 x4_7 x5_8 g_3 _ _ _  hd hw (lv_sub hl [4, 5, 3, 2, 1, 0] rfl)
    · have hd := hd.2 h_2
      refine lv_bipush (v := (-2 : Int32)) K.1 K.2.1 dX7_fewest_9 (by decide) ?_
      exact rk_iret K hw hr hd dX7_fewest_11
theorem dX7_stop_0 : decode cX7_stop 0 = .ok (.iload_n 1, 1) := by decide +kernel
theorem dX7_stop_1 : decode cX7_stop 1 = .ok (.invokestatic 161, 3) := by decide +kernel
theorem dX7_stop_4 : decode cX7_stop 4 = .ok (.ifCond .eq 12, 3) := by decide +kernel
theorem dX7_stop_7 : decode cX7_stop 7 = .ok (.iload_n 2, 1) := by decide +kernel
theorem dX7_stop_8 : decode cX7_stop 8 = .ok (.ifCond .lt 8, 3) := by decide +kernel
theorem dX7_stop_11 : decode cX7_stop 11 = .ok (.iload_n 2, 1) := by decide +kernel
theorem dX7_stop_12 : decode cX7_stop 12 = .ok (.iconst 1, 1) := by decide +kernel
theorem dX7_stop_13 : decode cX7_stop 13 = .ok (.if_icmp .le 6, 3) := by decide +kernel
theorem dX7_stop_16 : decode cX7_stop 16 = .ok (.bipush (-2), 2) := by decide +kernel
theorem dX7_stop_18 : decode cX7_stop 18 = .ok (.ireturn, 1) := by decide +kernel
theorem dX7_stop_19 : decode cX7_stop 19 = .ok (.aload_n 0, 1) := by decide +kernel
theorem dX7_stop_20 : decode cX7_stop 20 = .ok (.invokevirtual 215, 3) := by decide +kernel
theorem dX7_stop_23 : decode cX7_stop 23 = .ok (.aload_n 0, 1) := by decide +kernel
theorem dX7_stop_24 : decode cX7_stop 24 = .ok (.aload_n 0, 1) := by decide +kernel
theorem dX7_stop_25 : decode cX7_stop 25 = .ok (.getfield 10, 3) := by decide +kernel
theorem dX7_stop_28 : decode cX7_stop 28 = .ok (.iload_n 1, 1) := by decide +kernel
theorem dX7_stop_29 : decode cX7_stop 29 = .ok (.invokevirtual 168, 3) := by decide +kernel
theorem dX7_stop_32 : decode cX7_stop 32 = .ok (.aload_n 0, 1) := by decide +kernel
theorem dX7_stop_33 : decode cX7_stop 33 = .ok (.getfield 60, 3) := by decide +kernel
theorem dX7_stop_36 : decode cX7_stop 36 = .ok (.iconst 1, 1) := by decide +kernel
theorem dX7_stop_37 : decode cX7_stop 37 = .ok (.invokevirtual 182, 3) := by decide +kernel
theorem dX7_stop_40 : decode cX7_stop 40 = .ok (.istore_n 3, 1) := by decide +kernel
theorem dX7_stop_41 : decode cX7_stop 41 = .ok (.aload_n 0, 1) := by decide +kernel
theorem dX7_stop_42 : decode cX7_stop 42 = .ok (.getfield 60, 3) := by decide +kernel
theorem dX7_stop_45 : decode cX7_stop 45 = .ok (.iconst (-1), 1) := by decide +kernel
theorem dX7_stop_46 : decode cX7_stop 46 = .ok (.invokevirtual 182, 3) := by decide +kernel
theorem dX7_stop_49 : decode cX7_stop 49 = .ok (.istore 4, 2) := by decide +kernel
theorem dX7_stop_51 : decode cX7_stop 51 = .ok (.iconst 0, 1) := by decide +kernel
theorem dX7_stop_52 : decode cX7_stop 52 = .ok (.istore 5, 2) := by decide +kernel
theorem dX7_stop_54 : decode cX7_stop 54 = .ok (.bipush 9, 2) := by decide +kernel
theorem dX7_stop_56 : decode cX7_stop 56 = .ok (.istore 6, 2) := by decide +kernel
theorem dX7_stop_58 : decode cX7_stop 58 = .ok (.iconst 0, 1) := by decide +kernel
theorem dX7_stop_59 : decode cX7_stop 59 = .ok (.istore 7, 2) := by decide +kernel
theorem dX7_stop_61 : decode cX7_stop 61 = .ok (.iload 7, 2) := by decide +kernel
theorem dX7_stop_63 : decode cX7_stop 63 = .ok (.aload_n 0, 1) := by decide +kernel
theorem dX7_stop_64 : decode cX7_stop 64 = .ok (.getfield 60, 3) := by decide +kernel
theorem dX7_stop_67 : decode cX7_stop 67 = .ok (.getfield 218, 3) := by decide +kernel
theorem dX7_stop_70 : decode cX7_stop 70 = .ok (.if_icmp .gt 78, 3) := by decide +kernel
theorem dX7_stop_73 : decode cX7_stop 73 = .ok (.aload_n 0, 1) := by decide +kernel
theorem dX7_stop_74 : decode cX7_stop 74 = .ok (.getfield 60, 3) := by decide +kernel
theorem dX7_stop_77 : decode cX7_stop 77 = .ok (.iload_n 3, 1) := by decide +kernel
theorem dX7_stop_78 : decode cX7_stop 78 = .ok (.iload 7, 2) := by decide +kernel
theorem dX7_stop_80 : decode cX7_stop 80 = .ok (.iconst (-1), 1) := by decide +kernel
theorem dX7_stop_81 : decode cX7_stop 81 = .ok (.ixor, 1) := by decide +kernel
theorem dX7_stop_82 : decode cX7_stop 82 = .ok (.iand, 1) := by decide +kernel
theorem dX7_stop_83 : decode cX7_stop 83 = .ok (.invokevirtual 221, 3) := by decide +kernel
theorem dX7_stop_86 : decode cX7_stop 86 = .ok (.istore 8, 2) := by decide +kernel
theorem dX7_stop_88 : decode cX7_stop 88 = .ok (.aload_n 0, 1) := by decide +kernel
theorem dX7_stop_89 : decode cX7_stop 89 = .ok (.getfield 60, 3) := by decide +kernel
theorem dX7_stop_92 : decode cX7_stop 92 = .ok (.iload 4, 2) := by decide +kernel
theorem dX7_stop_94 : decode cX7_stop 94 = .ok (.iload 7, 2) := by decide +kernel
theorem dX7_stop_96 : decode cX7_stop 96 = .ok (.iconst (-1), 1) := by decide +kernel
theorem dX7_stop_97 : decode cX7_stop 97 = .ok (.ixor, 1) := by decide +kernel
theorem dX7_stop_98 : decode cX7_stop 98 = .ok (.iand, 1) := by decide +kernel
theorem dX7_stop_99 : decode cX7_stop 99 = .ok (.invokevirtual 221, 3) := by decide +kernel
theorem dX7_stop_102 : decode cX7_stop 102 = .ok (.istore 9, 2) := by decide +kernel
theorem dX7_stop_104 : decode cX7_stop 104 = .ok (.iload 7, 2) := by decide +kernel
theorem dX7_stop_106 : decode cX7_stop 106 = .ok (.invokestatic 207, 3) := by decide +kernel
theorem dX7_stop_109 : decode cX7_stop 109 = .ok (.iload 6, 2) := by decide +kernel
theorem dX7_stop_111 : decode cX7_stop 111 = .ok (.if_icmp .ge 31, 3) := by decide +kernel
theorem dX7_stop_114 : decode cX7_stop 114 = .ok (.iload 8, 2) := by decide +kernel
theorem dX7_stop_116 : decode cX7_stop 116 = .ok (.iload 9, 2) := by decide +kernel
theorem dX7_stop_118 : decode cX7_stop 118 = .ok (.aload_n 0, 1) := by decide +kernel
theorem dX7_stop_119 : decode cX7_stop 119 = .ok (.getfield 10, 3) := by decide +kernel
theorem dX7_stop_122 : decode cX7_stop 122 = .ok (.getfield 103, 3) := by decide +kernel
theorem dX7_stop_125 : decode cX7_stop 125 = .ok (.invokestatic 178, 3) := by decide +kernel
theorem dX7_stop_128 : decode cX7_stop 128 = .ok (.ifCond .ne 14, 3) := by decide +kernel
theorem dX7_stop_131 : decode cX7_stop 131 = .ok (.iload 7, 2) := by decide +kernel
theorem dX7_stop_133 : decode cX7_stop 133 = .ok (.invokestatic 207, 3) := by decide +kernel
theorem dX7_stop_136 : decode cX7_stop 136 = .ok (.istore 6, 2) := by decide +kernel
theorem dX7_stop_138 : decode cX7_stop 138 = .ok (.iload 7, 2) := by decide +kernel
theorem dX7_stop_140 : decode cX7_stop 140 = .ok (.istore 5, 2) := by decide +kernel
theorem dX7_stop_142 : decode cX7_stop 142 = .ok (.iinc 7 1, 3) := by decide +kernel
theorem dX7_stop_145 : decode cX7_stop 145 = .ok (.goto (-84), 3) := by decide +kernel
theorem dX7_stop_148 : decode cX7_stop 148 = .ok (.iload_n 2, 1) := by decide +kernel
theorem dX7_stop_149 : decode cX7_stop 149 = .ok (.ifCond .ne 8, 3) := by decide +kernel
theorem dX7_stop_152 : decode cX7_stop 152 = .ok (.iload 5, 2) := by decide +kernel
theorem dX7_stop_154 : decode cX7_stop 154 = .ok (.goto 8, 3) := by decide +kernel
theorem dX7_stop_157 : decode cX7_stop 157 = .ok (.iload 5, 2) := by decide +kernel
theorem dX7_stop_159 : decode cX7_stop 159 = .ok (.invokestatic 207, 3) := by decide +kernel
theorem dX7_stop_162 : decode cX7_stop 162 = .ok (.ireturn, 1) := by decide +kernel
set_option maxHeartbeats 4000000 in
set_option maxRecDepth 100000 in
theorem bb_X7_stop_142 {p : Program} {l : Launch} {e : Env} {s : State} {m : MethodId} {args : Array Value} {below : List Frame} {meth : Method} {c : Code} {D : va_G} {cy : Nat → ClassId} {nt : Nat} {ad : Nat → Nat} {A : Nat → Prop} {X : Nat → Nat} {Q : Int32 → Sg → Prop} (K : Kx p s m args meth c cX7_stop 10 RX7 D cy) (KX : XC X A s s.heap) (hr : meth.sig.returnType = (some .int))  {rc61 : Int32 → Int32 → Int32 → Int32 → Int32 → Int32 → Sg → Prop} (hrc61 : ∀ (x2 : Int32) (x3 : Int32) (x4 : Int32) (x5 : Int32) (x6 : Int32) (x7 : Int32) (u : Sg) (H : Heap) (locs : List Loc) (ls : Array Slot), rc61 x2 x3 x4 x5 x6 x7 u → Wd D A s.heap (wsC cy nt ad u) H locs → lv_has ls 10 [(0, .ref (ad 0)), (2, .int x2), (3, .int x3), (4, .int x4), (5, .int x5), (6, .int x6), (7, .int x7)] → W p l e (rmD 7) s m args below meth c H locs 0 0 (MQ below (va_Qi Q (PostG (wsC cy nt ad) D A) A) args s 0 0 A) (F0 m 61 ls [])) (x2 : Int32) (x3 : Int32) (x4 : Int32) (x5 : Int32) (x6 : Int32) (x7 : Int32)  (g0 : Sg) (H : Heap) (locs : List Loc) (ls : Array Slot) (hd : vv_X7_stop_J142 nt rc61 x2 x3 x4 x5 x6 x7 g0 Q) (hw : Wd D A s.heap (wsC cy nt ad g0) H locs) (hl : lv_has ls 10 [(0, .ref (ad 0)), (2, .int x2), (3, .int x3), (4, .int x4), (5, .int x5), (6, .int x6), (7, .int x7)]) : W p l e (rmD 7) s m args below meth c H locs 0 0 (MQ below (va_Qi Q (PostG (wsC cy nt ad) D A) A) args s 0 0 A) (F0 m 142 ls []) := by
  unfold vv_X7_stop_J142 at hd
  obtain ⟨x7_32, ex7_32⟩ : ∃ y : Int32, y = x7 + (1 : Int32) := ⟨_, rfl⟩
  have hd := hd x7_32 ex7_32
  refine lv_iinc (v := x7_32) (lv' := [(7, .int x7_32), (0, .ref (ad 0)), (2, .int x2), (3, .int x3), (4, .int x4), (5, .int x5), (6, .int x6)]) K.1 K.2.1 dX7_stop_142 hl (k := 6) rfl (by rw [ex7_32]; rfl) (by decide) rfl (fun ls hl => ?_)
  refine lv_goto (tgt := 61) K.1 K.2.1 dX7_stop_145 (by decide) ?_
  exact hrc61 x2 x3 x4 x5 x6 x7_32 g0 _ _ _  hd hw (lv_sub hl [1, 2, 3, 4, 5, 6, 0] rfl)
set_option maxHeartbeats 4000000 in
set_option maxRecDepth 100000 in
theorem bb_X7_stop_61 {p : Program} {l : Launch} {e : Env} {s : State} {m : MethodId} {args : Array Value} {below : List Frame} {meth : Method} {c : Code} {D : va_G} {cy : Nat → ClassId} {nt : Nat} {ad : Nat → Nat} {A : Nat → Prop} {X : Nat → Nat} {Q : Int32 → Sg → Prop} (K : Kx p s m args meth c cX7_stop 10 RX7 D cy) (KX : XC X A s s.heap) (hr : meth.sig.returnType = (some .int))  : ∀ (n : Nat) (x2 : Int32) (x3 : Int32) (x4 : Int32) (x5 : Int32) (x6 : Int32) (x7 : Int32)  (g0 : Sg) (H : Heap) (locs : List Loc) (ls : Array Slot), vv_X7_stop_L61 nt Q n x2 x3 x4 x5 x6 x7 g0 → Wd D A s.heap (wsC cy nt ad g0) H locs → lv_has ls 10 [(0, .ref (ad 0)), (2, .int x2), (3, .int x3), (4, .int x4), (5, .int x5), (6, .int x6), (7, .int x7)] → W p l e (rmD 7) s m args below meth c H locs 0 0 (MQ below (va_Qi Q (PostG (wsC cy nt ad) D A) A) args s 0 0 A) (F0 m 61 ls []) := by
  intro n
  induction n with
  | zero => intro _ _ _ _ _ _ _ _ _ _ hd; exact hd.elim
  | succ n ih =>
    intro x2 x3 x4 x5 x6 x7 g0 H locs ls  hd hw hl
    unfold vv_X7_stop_L61 at hd
    refine lv_iload K.1 K.2.1 dX7_stop_61 (lv_at hl 6 rfl) ?_
    refine lv_aload_n K.1 K.2.1 dX7_stop_63 rfl (lv_at hl 0 rfl) ?_
    refine rc_get layX7 (ci := 7) rfl 10 (by decide) (v := .ref (ad 22)) K hw (wc_O cy nt ad _) kf_X7_60 rfl dX7_stop_64 ?_
    refine rc_get layX4 (ci := 4) rfl 2 (by decide) (v := .int (g0 22 2)) K hw (wc_Ta cy nt ad _) kf_X7_218 rfl dX7_stop_67 ?_
    refine lv_icmp_gt (tgt := 148) K.1 K.2.1 dX7_stop_70 (by decide) (fun h_19 => ?_) (fun h_19 => ?_)
    · have hd := hd.1 h_19
      refine lv_iload_n K.1 K.2.1 dX7_stop_148 rfl (lv_at hl 1 rfl) ?_
      refine lv_if_ne (tgt := 157) K.1 K.2.1 dX7_stop_149 (by decide) (fun h_20 => ?_) (fun h_20 => ?_)
      · have hd := hd.1 h_20
        refine lv_iload K.1 K.2.1 dX7_stop_157 (lv_at hl 4 rfl) ?_
        refine rkc_si (As := [.int x5]) (rest := []) K KX hw (cc_J6_bitCount_0f7a4 l D cy nt ad A X g0 _ x5 hd) lk_X7_207 ⟨Nat.le_of_ble_eq_true rfl, Nat.le_of_ble_eq_true rfl⟩ ⟨Nat.zero_le _, Nat.zero_le _⟩ rfl hl.1 (Nat.le_of_ble_eq_true rfl) rfl dX7_stop_159 (fun r_22 g_21 H locs hd hw => ?_)
        exact rk_iret K hw hr hd dX7_stop_162
      · have hd := hd.2 h_20
        refine lv_iload K.1 K.2.1 dX7_stop_152 (lv_at hl 4 rfl) ?_
        refine lv_goto (tgt := 162) K.1 K.2.1 dX7_stop_154 (by decide) ?_
        exact rk_iret K hw hr hd dX7_stop_162
    · have hd := hd.2 h_19
      refine lv_aload_n K.1 K.2.1 dX7_stop_73 rfl (lv_at hl 0 rfl) ?_
      refine rc_get layX7 (ci := 7) rfl 10 (by decide) (v := .ref (ad 22)) K hw (wc_O cy nt ad _) kf_X7_60 rfl dX7_stop_74 ?_
      refine lv_iload_n K.1 K.2.1 dX7_stop_77 rfl (lv_at hl 2 rfl) ?_
      refine lv_iload K.1 K.2.1 dX7_stop_78 (lv_at hl 6 rfl) ?_
      refine lv_iconst (v := (-1 : Int32)) K.1 K.2.1 dX7_stop_80 (by decide) ?_
      refine lv_ixor K.1 K.2.1 dX7_stop_81 ?_
      refine lv_iand K.1 K.2.1 dX7_stop_82 ?_
      refine rkc_vi (As := [.int (x3 &&& (x7 ^^^ (-1 : Int32)))]) (rest := []) K KX hw (cc_X4_weightOfSet l D cy nt ad A X g0 _ (x3 &&& (x7 ^^^ (-1 : Int32))) hd) lk_X7_221 (ci := 4) rfl (wc_Ta cy nt ad _) ⟨Nat.le_of_ble_eq_true rfl, Nat.le_of_ble_eq_true rfl⟩ ⟨Nat.zero_le _, Nat.zero_le _⟩ rfl hl.1 (Nat.le_of_ble_eq_true rfl) rfl dX7_stop_83 (fun r_24 g_23 H locs hd hw => ?_)
      refine lv_topi (fun x8_25 ex8_25 => ?_)
      have hd := hd x8_25 ex8_25
      refine lv_istore (lv' := [(8, .int x8_25), (0, .ref (ad 0)), (2, .int x2), (3, .int x3), (4, .int x4), (5, .int x5), (6, .int x6), (7, .int x7)]) K.1 K.2.1 dX7_stop_86 hl (by decide) rfl (fun ls hl => ?_)
      refine lv_aload_n K.1 K.2.1 dX7_stop_88 rfl (lv_at hl 1 rfl) ?_
      refine rc_get layX7 (ci := 7) rfl 10 (by decide) (v := .ref (ad 22)) K hw (wc_O cy nt ad _) kf_X7_60 rfl dX7_stop_89 ?_
      refine lv_iload K.1 K.2.1 dX7_stop_92 (lv_at hl 4 rfl) ?_
      refine lv_iload K.1 K.2.1 dX7_stop_94 (lv_at hl 7 rfl) ?_
      refine lv_iconst (v := (-1 : Int32)) K.1 K.2.1 dX7_stop_96 (by decide) ?_
      refine lv_ixor K.1 K.2.1 dX7_stop_97 ?_
      refine lv_iand K.1 K.2.1 dX7_stop_98 ?_
      refine rkc_vi (As := [.int (x4 &&& (x7 ^^^ (-1 : Int32)))]) (rest := []) K KX hw (cc_X4_weightOfSet l D cy nt ad A X g_23 _ (x4 &&& (x7 ^^^ (-1 : Int32))) hd) lk_X7_221 (ci := 4) rfl (wc_Ta cy nt ad _) ⟨Nat.le_of_ble_eq_true rfl, Nat.le_of_ble_eq_true rfl⟩ ⟨Nat.zero_le _, Nat.zero_le _⟩ rfl hl.1 (Nat.le_of_ble_eq_true rfl) rfl dX7_stop_99 (fun r_27 g_26 H locs hd hw => ?_)
      refine lv_topi (fun x9_28 ex9_28 => ?_)
      have hd := hd x9_28 ex9_28
      refine lv_istore (lv' := [(9, .int x9_28), (8, .int x8_25), (0, .ref (ad 0)), (2, .int x2), (3, .int x3), (4, .int x4), (5, .int x5), (6, .int x6), (7, .int x7)]) K.1 K.2.1 dX7_stop_102 hl (by decide) rfl (fun ls hl => ?_)
      refine lv_iload K.1 K.2.1 dX7_stop_104 (lv_at hl 8 rfl) ?_
      refine rkc_si (As := [.int x7]) (rest := []) K KX hw (cc_J6_bitCount_0f7a4 l D cy nt ad A X g_26 _ x7 hd) lk_X7_207 ⟨Nat.le_of_ble_eq_true rfl, Nat.le_of_ble_eq_true rfl⟩ ⟨Nat.zero_le _, Nat.zero_le _⟩ rfl hl.1 (Nat.le_of_ble_eq_true rfl) rfl dX7_stop_106 (fun r_30 g_29 H locs hd hw => ?_)
      refine lv_iload K.1 K.2.1 dX7_stop_109 (lv_at hl 7 rfl) ?_
      refine lv_icmp_ge (tgt := 142) K.1 K.2.1 dX7_stop_111 (by decide) (fun h_31 => ?_) (fun h_31 => ?_)
      · have hd := hd.1 h_31
        exact bb_X7_stop_142 K KX hr  ih x2 x3 x4 x5 x6 x7 g_29 _ _ _  hd hw (lv_sub hl [2, 3, 4, 5, 6, 7, 8] rfl)
      · have hd := hd.2 h_31
        refine lv_iload K.1 K.2.1 dX7_stop_114 (lv_at hl 1 rfl) ?_
        refine lv_iload K.1 K.2.1 dX7_stop_116 (lv_at hl 0 rfl) ?_
        refine lv_aload_n K.1 K.2.1 dX7_stop_118 rfl (lv_at hl 2 rfl) ?_
        refine rc_get layX7 (ci := 7) rfl 0 (by decide) (v := .ref (ad 1)) K hw (wc_O cy nt ad _) kf_X7_10 rfl dX7_stop_119 ?_
        refine rc_get layX0 (ci := 0) rfl 3 (by decide) (v := .int (g_29 1 3)) K hw (wc_B cy nt ad _ ⟨by decide, by decide⟩) kf_X7_103 rfl dX7_stop_122 ?_
        refine rkc_si (As := [.int x8_25, .int x9_28, .int (g_29 1 3)]) (rest := []) K KX hw (cc_X7_carried l D cy nt ad A X g_29 _ x8_25 x9_28 (g_29 1 3) hd) lk_X7_178 ⟨Nat.le_of_ble_eq_true rfl, Nat.le_of_ble_eq_true rfl⟩ ⟨Nat.zero_le _, Nat.zero_le _⟩ rfl hl.1 (Nat.le_of_ble_eq_true rfl) rfl dX7_stop_125 (fun r_34 g_33 H locs hd hw => ?_)
        refine lv_if_ne (tgt := 142) K.1 K.2.1 dX7_stop_128 (by decide) (fun h_35 => ?_) (fun h_35 => ?_)
        · have hd := hd.1 h_35
          exact bb_X7_stop_142 K KX hr  ih x2 x3 x4 x5 x6 x7 g_33 _ _ _  hd hw (lv_sub hl [2, 3, 4, 5, 6, 7, 8] rfl)
        · have hd := hd.2 h_35
          refine lv_iload K.1 K.2.1 dX7_stop_131 (lv_at hl 8 rfl) ?_
          refine rkc_si (As := [.int x7]) (rest := []) K KX hw (cc_J6_bitCount_0f7a4 l D cy nt ad A X g_33 _ x7 hd) lk_X7_207 ⟨Nat.le_of_ble_eq_true rfl, Nat.le_of_ble_eq_true rfl⟩ ⟨Nat.zero_le _, Nat.zero_le _⟩ rfl hl.1 (Nat.le_of_ble_eq_true rfl) rfl dX7_stop_133 (fun r_37 g_36 H locs hd hw => ?_)
          refine lv_topi (fun x6_38 ex6_38 => ?_)
          have hd := hd x6_38 ex6_38
          refine lv_istore (lv' := [(6, .int x6_38), (9, .int x9_28), (8, .int x8_25), (0, .ref (ad 0)), (2, .int x2), (3, .int x3), (4, .int x4), (5, .int x5), (7, .int x7)]) K.1 K.2.1 dX7_stop_136 hl (by decide) rfl (fun ls hl => ?_)
          refine lv_iload K.1 K.2.1 dX7_stop_138 (lv_at hl 8 rfl) ?_
          refine lv_topi (fun x5_39 ex5_39 => ?_)
          have hd := hd x5_39 ex5_39
          refine lv_istore (lv' := [(5, .int x5_39), (6, .int x6_38), (9, .int x9_28), (8, .int x8_25), (0, .ref (ad 0)), (2, .int x2), (3, .int x3), (4, .int x4), (7, .int x7)]) K.1 K.2.1 dX7_stop_140 hl (by decide) rfl (fun ls hl => ?_)
          exact bb_X7_stop_142 K KX hr  ih x2 x3 x4 x5_39 x6_38 x7 g_36 _ _ _  hd hw (lv_sub hl [4, 5, 6, 7, 0, 1, 8] rfl)
set_option maxHeartbeats 4000000 in
set_option maxRecDepth 100000 in
theorem cc_X7_stop (l : Launch) (D : va_G) (cy : Nat → ClassId) (nt : Nat) (ad : Nat → Nat) (A : Nat → Prop) (X : Nat → Nat)  (g0 : Sg) (Q : Int32 → Sg → Prop) (x1 : Int32) (x2 : Int32) (hd : vv_X7_stop nt x1 x2 g0 Q) : Met l yX7_stop (Cond.code yX7_stop cX7_stop 10 (some .int) :: TT) (rmD 7) (va_Pc [.ref (ad 0), .int x1, .int x2] (PreC (wsC cy nt ad) D cy A X g0)) (va_Qi Q (PostG (wsC cy nt ad) D A) A) 0 0 A := by
  unfold vv_X7_stop at hd
  refine Met.ofW (cc := cX7_stop) (maxL := 10) (ret := (some .int)) (by decide) rfl ?_
  intro p e s m args below meth c s₁ B hml hv
  obtain ⟨rfl, ⟨hP, hK0, hD⟩, KX⟩ := hv
  have K : Kx p s m _ meth c cX7_stop 10 RX7 D cy := ⟨B.exec, B.bytes, hml, findClass_of_methodNamed B.named, fun w h => atoms_spec (ws := Cond.code yX7_stop cX7_stop 10 (some .int) :: TT) B.pre w (List.mem_cons_of_mem _ h), hK0, B.notSynchronized⟩
  have hw : Wd D A s.heap (wsC cy nt ad g0) s.heap [] := ⟨hP, hD, va_S.rf⟩
  have hr := B.returns
  have hl := lv_entry ([.ref (ad 0), .int x1, .int x2]) (n := 10) (Nat.le_of_ble_eq_true rfl)
  rw [lg_entry_eq]
  generalize (lg_sl ([.ref (ad 0), .int x1, .int x2]) ++ List.replicate (10 - (lg_sl ([.ref (ad 0), .int x1, .int x2])).length) Slot.unset).toArray = ls at hl ⊢
  have hl : lv_has ls 10 [(0, .ref (ad 0)), (1, .int x1), (2, .int x2)] := hl
  refine lv_iload_n K.1 K.2.1 dX7_stop_0 rfl (lv_at hl 1 rfl) ?_
  refine rkc_si (As := [.int x1]) (rest := []) K KX hw (cc_X7_isTopic l D cy nt ad A X g0 _ x1 hd) lk_X7_161 ⟨Nat.le_of_ble_eq_true rfl, Nat.le_of_ble_eq_true rfl⟩ ⟨Nat.zero_le _, Nat.zero_le _⟩ rfl hl.1 (Nat.le_of_ble_eq_true rfl) rfl dX7_stop_1 (fun r_2 g_1 H locs hd hw => ?_)
  refine lv_if_eq (tgt := 16) K.1 K.2.1 dX7_stop_4 (by decide) (fun h_3 => ?_) (fun h_3 => ?_)
  · have hd := hd.1 h_3
    refine lv_bipush (v := (-2 : Int32)) K.1 K.2.1 dX7_stop_16 (by decide) ?_
    exact rk_iret K hw hr hd dX7_stop_18
  · have hd := hd.2 h_3
    refine lv_iload_n K.1 K.2.1 dX7_stop_7 rfl (lv_at hl 2 rfl) ?_
    refine lv_if_lt (tgt := 16) K.1 K.2.1 dX7_stop_8 (by decide) (fun h_4 => ?_) (fun h_4 => ?_)
    · have hd := hd.1 h_4
      refine lv_bipush (v := (-2 : Int32)) K.1 K.2.1 dX7_stop_16 (by decide) ?_
      exact rk_iret K hw hr hd dX7_stop_18
    · have hd := hd.2 h_4
      refine lv_iload_n K.1 K.2.1 dX7_stop_11 rfl (lv_at hl 2 rfl) ?_
      refine lv_iconst (v := (1 : Int32)) K.1 K.2.1 dX7_stop_12 (by decide) ?_
      refine lv_icmp_le (tgt := 19) K.1 K.2.1 dX7_stop_13 (by decide) (fun h_5 => ?_) (fun h_5 => ?_)
      · have hd := hd.1 h_5
        refine lv_aload_n K.1 K.2.1 dX7_stop_19 rfl (lv_at hl 0 rfl) ?_
        refine rkc_vv (As := []) (rest := []) K KX hw (cc_X7_weighCoalitions l D cy nt ad A X g_1 _  hd) lk_X7_215 (ci := 7) rfl (wc_O cy nt ad _) ⟨Nat.le_of_ble_eq_true rfl, Nat.le_of_ble_eq_true rfl⟩ ⟨Nat.zero_le _, Nat.zero_le _⟩ rfl hl.1 (Nat.le_of_ble_eq_true rfl) rfl dX7_stop_20 (fun g_6 H locs hd hw => ?_)
        refine lv_aload_n K.1 K.2.1 dX7_stop_23 rfl (lv_at hl 0 rfl) ?_
        refine lv_aload_n K.1 K.2.1 dX7_stop_24 rfl (lv_at hl 0 rfl) ?_
        refine rc_get layX7 (ci := 7) rfl 0 (by decide) (v := .ref (ad 1)) K hw (wc_O cy nt ad _) kf_X7_10 rfl dX7_stop_25 ?_
        refine lv_iload_n K.1 K.2.1 dX7_stop_28 rfl (lv_at hl 1 rfl) ?_
        refine rkc_vv (As := [.ref (ad 1), .int x1]) (rest := []) K KX hw (cc_X7_divide l D cy nt ad A X g_6 _ 1 x1 hd) lk_X7_168 (ci := 7) rfl (wc_O cy nt ad _) ⟨Nat.le_of_ble_eq_true rfl, Nat.le_of_ble_eq_true rfl⟩ ⟨Nat.zero_le _, Nat.zero_le _⟩ rfl hl.1 (Nat.le_of_ble_eq_true rfl) rfl dX7_stop_29 (fun g_8 H locs hd hw => ?_)
        refine lv_aload_n K.1 K.2.1 dX7_stop_32 rfl (lv_at hl 0 rfl) ?_
        refine rc_get layX7 (ci := 7) rfl 10 (by decide) (v := .ref (ad 22)) K hw (wc_O cy nt ad _) kf_X7_60 rfl dX7_stop_33 ?_
        refine lv_iconst (v := (1 : Int32)) K.1 K.2.1 dX7_stop_36 (by decide) ?_
        refine rkc_vi (As := [.int (1 : Int32)]) (rest := []) K KX hw (cc_X4_bitsOf l D cy nt ad A X g_8 _ (1 : Int32) hd) lk_X7_182 (ci := 4) rfl (wc_Ta cy nt ad _) ⟨Nat.le_of_ble_eq_true rfl, Nat.le_of_ble_eq_true rfl⟩ ⟨Nat.zero_le _, Nat.zero_le _⟩ rfl hl.1 (Nat.le_of_ble_eq_true rfl) rfl dX7_stop_37 (fun r_11 g_10 H locs hd hw => ?_)
        refine lv_topi (fun x3_12 ex3_12 => ?_)
        have hd := hd x3_12 ex3_12
        refine lv_istore_n (lv' := [(3, .int x3_12), (0, .ref (ad 0)), (1, .int x1), (2, .int x2)]) K.1 K.2.1 dX7_stop_40 rfl hl (by decide) rfl (fun ls hl => ?_)
        refine lv_aload_n K.1 K.2.1 dX7_stop_41 rfl (lv_at hl 1 rfl) ?_
        refine rc_get layX7 (ci := 7) rfl 10 (by decide) (v := .ref (ad 22)) K hw (wc_O cy nt ad _) kf_X7_60 rfl dX7_stop_42 ?_
        refine lv_iconst (v := (-1 : Int32)) K.1 K.2.1 dX7_stop_45 (by decide) ?_
        refine rkc_vi (As := [.int (-1 : Int32)]) (rest := []) K KX hw (cc_X4_bitsOf l D cy nt ad A X g_10 _ (-1 : Int32) hd) lk_X7_182 (ci := 4) rfl (wc_Ta cy nt ad _) ⟨Nat.le_of_ble_eq_true rfl, Nat.le_of_ble_eq_true rfl⟩ ⟨Nat.zero_le _, Nat.zero_le _⟩ rfl hl.1 (Nat.le_of_ble_eq_true rfl) rfl dX7_stop_46 (fun r_14 g_13 H locs hd hw => ?_)
        refine lv_topi (fun x4_15 ex4_15 => ?_)
        have hd := hd x4_15 ex4_15
        refine lv_istore (lv' := [(4, .int x4_15), (3, .int x3_12), (0, .ref (ad 0)), (1, .int x1), (2, .int x2)]) K.1 K.2.1 dX7_stop_49 hl (by decide) rfl (fun ls hl => ?_)
        refine lv_iconst (v := (0 : Int32)) K.1 K.2.1 dX7_stop_51 (by decide) ?_
        refine lv_topi (fun x5_16 ex5_16 => ?_)
        have hd := hd x5_16 ex5_16
        refine lv_istore (lv' := [(5, .int x5_16), (4, .int x4_15), (3, .int x3_12), (0, .ref (ad 0)), (1, .int x1), (2, .int x2)]) K.1 K.2.1 dX7_stop_52 hl (by decide) rfl (fun ls hl => ?_)
        refine lv_bipush (v := (9 : Int32)) K.1 K.2.1 dX7_stop_54 (by decide) ?_
        refine lv_topi (fun x6_17 ex6_17 => ?_)
        have hd := hd x6_17 ex6_17
        refine lv_istore (lv' := [(6, .int x6_17), (5, .int x5_16), (4, .int x4_15), (3, .int x3_12), (0, .ref (ad 0)), (1, .int x1), (2, .int x2)]) K.1 K.2.1 dX7_stop_56 hl (by decide) rfl (fun ls hl => ?_)
        refine lv_iconst (v := (0 : Int32)) K.1 K.2.1 dX7_stop_58 (by decide) ?_
        refine lv_topi (fun x7_18 ex7_18 => ?_)
        have hd := hd x7_18 ex7_18
        refine lv_istore (lv' := [(7, .int x7_18), (6, .int x6_17), (5, .int x5_16), (4, .int x4_15), (3, .int x3_12), (0, .ref (ad 0)), (1, .int x1), (2, .int x2)]) K.1 K.2.1 dX7_stop_59 hl (by decide) rfl (fun ls hl => ?_)
        obtain ⟨n9, hd⟩ := hd
        exact bb_X7_stop_61 K KX hr   n9 x2 x3_12 x4_15 x5_16 x6_17 x7_18 g_13 _ _ _  hd hw (lv_sub hl [5, 7, 4, 3, 2, 1, 0] rfl)
      · have hd := hd.2 h_5
        refine lv_bipush (v := (-2 : Int32)) K.1 K.2.1 dX7_stop_16 (by decide) ?_
        exact rk_iret K hw hr hd dX7_stop_18
theorem dX7_alikeTopics_0 : decode cX7_alikeTopics 0 = .ok (.iconst 0, 1) := by decide +kernel
theorem dX7_alikeTopics_1 : decode cX7_alikeTopics 1 = .ok (.istore_n 3, 1) := by decide +kernel
theorem dX7_alikeTopics_2 : decode cX7_alikeTopics 2 = .ok (.iconst 0, 1) := by decide +kernel
theorem dX7_alikeTopics_3 : decode cX7_alikeTopics 3 = .ok (.istore 4, 2) := by decide +kernel
theorem dX7_alikeTopics_5 : decode cX7_alikeTopics 5 = .ok (.iload 4, 2) := by decide +kernel
theorem dX7_alikeTopics_7 : decode cX7_alikeTopics 7 = .ok (.bipush 8, 2) := by decide +kernel
theorem dX7_alikeTopics_9 : decode cX7_alikeTopics 9 = .ok (.if_icmp .ge 37, 3) := by decide +kernel
theorem dX7_alikeTopics_12 : decode cX7_alikeTopics 12 = .ok (.aload_n 0, 1) := by decide +kernel
theorem dX7_alikeTopics_13 : decode cX7_alikeTopics 13 = .ok (.aload_n 0, 1) := by decide +kernel
theorem dX7_alikeTopics_14 : decode cX7_alikeTopics 14 = .ok (.getfield 10, 3) := by decide +kernel
theorem dX7_alikeTopics_17 : decode cX7_alikeTopics 17 = .ok (.aload_n 1, 1) := by decide +kernel
theorem dX7_alikeTopics_18 : decode cX7_alikeTopics 18 = .ok (.iload 4, 2) := by decide +kernel
theorem dX7_alikeTopics_20 : decode cX7_alikeTopics 20 = .ok (.invokevirtual 144, 3) := by decide +kernel
theorem dX7_alikeTopics_23 : decode cX7_alikeTopics 23 = .ok (.aload_n 0, 1) := by decide +kernel
theorem dX7_alikeTopics_24 : decode cX7_alikeTopics 24 = .ok (.aload_n 0, 1) := by decide +kernel
theorem dX7_alikeTopics_25 : decode cX7_alikeTopics 25 = .ok (.getfield 10, 3) := by decide +kernel
theorem dX7_alikeTopics_28 : decode cX7_alikeTopics 28 = .ok (.aload_n 2, 1) := by decide +kernel
theorem dX7_alikeTopics_29 : decode cX7_alikeTopics 29 = .ok (.iload 4, 2) := by decide +kernel
theorem dX7_alikeTopics_31 : decode cX7_alikeTopics 31 = .ok (.invokevirtual 144, 3) := by decide +kernel
theorem dX7_alikeTopics_34 : decode cX7_alikeTopics 34 = .ok (.if_icmp .ne 6, 3) := by decide +kernel
theorem dX7_alikeTopics_37 : decode cX7_alikeTopics 37 = .ok (.iinc 3 1, 3) := by decide +kernel
theorem dX7_alikeTopics_40 : decode cX7_alikeTopics 40 = .ok (.iinc 4 1, 3) := by decide +kernel
theorem dX7_alikeTopics_43 : decode cX7_alikeTopics 43 = .ok (.goto (-38), 3) := by decide +kernel
theorem dX7_alikeTopics_46 : decode cX7_alikeTopics 46 = .ok (.iload_n 3, 1) := by decide +kernel
theorem dX7_alikeTopics_47 : decode cX7_alikeTopics 47 = .ok (.ireturn, 1) := by decide +kernel
set_option maxHeartbeats 4000000 in
set_option maxRecDepth 100000 in
theorem bb_X7_alikeTopics_40 {p : Program} {l : Launch} {e : Env} {s : State} {m : MethodId} {args : Array Value} {below : List Frame} {meth : Method} {c : Code} {D : va_G} {cy : Nat → ClassId} {nt : Nat} {ad : Nat → Nat} {A : Nat → Prop} {X : Nat → Nat} {Q : Int32 → Sg → Prop} (K : Kx p s m args meth c cX7_alikeTopics 5 RX7 D cy) (KX : XC X A s s.heap) (hr : meth.sig.returnType = (some .int))  {rc5 : Nat → Nat → Int32 → Int32 → Sg → Prop} (hrc5 : ∀ (x1 : Nat) (x2 : Nat) (x3 : Int32) (x4 : Int32) (u : Sg) (H : Heap) (locs : List Loc) (ls : Array Slot), isP x1 → isP x2 → rc5 x1 x2 x3 x4 u → Wd D A s.heap (wsC cy nt ad u) H locs → lv_has ls 5 [(0, .ref (ad 0)), (1, .ref (ad x1)), (2, .ref (ad x2)), (3, .int x3), (4, .int x4)] → W p l e (rmD 6) s m args below meth c H locs 0 0 (MQ below (va_Qi Q (PostG (wsC cy nt ad) D A) A) args s 0 0 A) (F0 m 5 ls [])) (x1 : Nat) (x2 : Nat) (x3 : Int32) (x4 : Int32)  (g0 : Sg) (H : Heap) (locs : List Loc) (ls : Array Slot) (hq_x1 : isP x1) (hq_x2 : isP x2) (hd : vv_X7_alikeTopics_J40 nt rc5 x1 x2 x3 x4 g0 Q) (hw : Wd D A s.heap (wsC cy nt ad g0) H locs) (hl : lv_has ls 5 [(0, .ref (ad 0)), (1, .ref (ad x1)), (2, .ref (ad x2)), (3, .int x3), (4, .int x4)]) : W p l e (rmD 6) s m args below meth c H locs 0 0 (MQ below (va_Qi Q (PostG (wsC cy nt ad) D A) A) args s 0 0 A) (F0 m 40 ls []) := by
  unfold vv_X7_alikeTopics_J40 at hd
  obtain ⟨x4_9, ex4_9⟩ : ∃ y : Int32, y = x4 + (1 : Int32) := ⟨_, rfl⟩
  have hd := hd x4_9 ex4_9
  refine lv_iinc (v := x4_9) (lv' := [(4, .int x4_9), (0, .ref (ad 0)), (1, .ref (ad x1)), (2, .ref (ad x2)), (3, .int x3)]) K.1 K.2.1 dX7_alikeTopics_40 hl (k := 4) rfl (by rw [ex4_9]; rfl) (by decide) rfl (fun ls hl => ?_)
  refine lv_goto (tgt := 5) K.1 K.2.1 dX7_alikeTopics_43 (by decide) ?_
  exact hrc5 x1 x2 x3 x4_9 g0 _ _ _ hq_x1 hq_x2 hd hw (lv_sub hl [1, 2, 3, 4, 0] rfl)
set_option maxHeartbeats 4000000 in
set_option maxRecDepth 100000 in
theorem bb_X7_alikeTopics_5 {p : Program} {l : Launch} {e : Env} {s : State} {m : MethodId} {args : Array Value} {below : List Frame} {meth : Method} {c : Code} {D : va_G} {cy : Nat → ClassId} {nt : Nat} {ad : Nat → Nat} {A : Nat → Prop} {X : Nat → Nat} {Q : Int32 → Sg → Prop} (K : Kx p s m args meth c cX7_alikeTopics 5 RX7 D cy) (KX : XC X A s s.heap) (hr : meth.sig.returnType = (some .int))  : ∀ (n : Nat) (x1 : Nat) (x2 : Nat) (x3 : Int32) (x4 : Int32)  (g0 : Sg) (H : Heap) (locs : List Loc) (ls : Array Slot), isP x1 → isP x2 → vv_X7_alikeTopics_L5 nt Q n x1 x2 x3 x4 g0 → Wd D A s.heap (wsC cy nt ad g0) H locs → lv_has ls 5 [(0, .ref (ad 0)), (1, .ref (ad x1)), (2, .ref (ad x2)), (3, .int x3), (4, .int x4)] → W p l e (rmD 6) s m args below meth c H locs 0 0 (MQ below (va_Qi Q (PostG (wsC cy nt ad) D A) A) args s 0 0 A) (F0 m 5 ls []) := by
  intro n
  induction n with
  | zero => intro _ _ _ _ _ _ _ _ _ _ hd; exact hd.elim
  | succ n ih =>
    intro x1 x2 x3 x4 g0 H locs ls hq_x1 hq_x2 hd hw hl
    unfold vv_X7_alikeTopics_L5 at hd
    refine lv_iload K.1 K.2.1 dX7_alikeTopics_5 (lv_at hl 4 rfl) ?_
    refine lv_bipush (v := (8 : Int32)) K.1 K.2.1 dX7_alikeTopics_7 (by decide) ?_
    refine lv_icmp_ge (tgt := 46) K.1 K.2.1 dX7_alikeTopics_9 (by decide) (fun h_3 => ?_) (fun h_3 => ?_)
    · have hd := hd.1 h_3
      refine lv_iload_n K.1 K.2.1 dX7_alikeTopics_46 rfl (lv_at hl 3 rfl) ?_
      exact rk_iret K hw hr hd dX7_alikeTopics_47
    · have hd := hd.2 h_3
      refine lv_aload_n K.1 K.2.1 dX7_alikeTopics_12 rfl (lv_at hl 0 rfl) ?_
      refine lv_aload_n K.1 K.2.1 dX7_alikeTopics_13 rfl (lv_at hl 0 rfl) ?_
      refine rc_get layX7 (ci := 7) rfl 0 (by decide) (v := .ref (ad 1)) K hw (wc_O cy nt ad _) kf_X7_10 rfl dX7_alikeTopics_14 ?_
      refine lv_aload_n K.1 K.2.1 dX7_alikeTopics_17 rfl (lv_at hl 1 rfl) ?_
      refine lv_iload K.1 K.2.1 dX7_alikeTopics_18 (lv_at hl 4 rfl) ?_
      refine rkc_vi (As := [.ref (ad 1), .ref (ad x1), .int x4]) (rest := []) K KX hw (cc_X7_castVote l D cy nt ad A X g0 _ 1 x1 x4 hd) lk_X7_144 (ci := 7) rfl (wc_O cy nt ad _) ⟨Nat.le_of_ble_eq_true rfl, Nat.le_of_ble_eq_true rfl⟩ ⟨Nat.zero_le _, Nat.zero_le _⟩ rfl hl.1 (Nat.le_of_ble_eq_true rfl) rfl dX7_alikeTopics_20 (fun r_5 g_4 H locs hd hw => ?_)
      refine lv_aload_n K.1 K.2.1 dX7_alikeTopics_23 rfl (lv_at hl 0 rfl) ?_
      refine lv_aload_n K.1 K.2.1 dX7_alikeTopics_24 rfl (lv_at hl 0 rfl) ?_
      refine rc_get layX7 (ci := 7) rfl 0 (by decide) (v := .ref (ad 1)) K hw (wc_O cy nt ad _) kf_X7_10 rfl dX7_alikeTopics_25 ?_
      refine lv_aload_n K.1 K.2.1 dX7_alikeTopics_28 rfl (lv_at hl 2 rfl) ?_
      refine lv_iload K.1 K.2.1 dX7_alikeTopics_29 (lv_at hl 4 rfl) ?_
      refine rkc_vi (As := [.ref (ad 1), .ref (ad x2), .int x4]) (rest := [.int r_5]) K KX hw (cc_X7_castVote l D cy nt ad A X g_4 _ 1 x2 x4 hd) lk_X7_144 (ci := 7) rfl (wc_O cy nt ad _) ⟨Nat.le_of_ble_eq_true rfl, Nat.le_of_ble_eq_true rfl⟩ ⟨Nat.zero_le _, Nat.zero_le _⟩ rfl hl.1 (Nat.le_of_ble_eq_true rfl) rfl dX7_alikeTopics_31 (fun r_7 g_6 H locs hd hw => ?_)
      refine lv_icmp_ne (tgt := 40) K.1 K.2.1 dX7_alikeTopics_34 (by decide) (fun h_8 => ?_) (fun h_8 => ?_)
      · have hd := hd.1 h_8
        exact bb_X7_alikeTopics_40 K KX hr  ih x1 x2 x3 x4 g_6 _ _ _ hq_x1 hq_x2 hd hw (lv_sub hl [0, 1, 2, 3, 4] rfl)
      · have hd := hd.2 h_8
        obtain ⟨x3_10, ex3_10⟩ : ∃ y : Int32, y = x3 + (1 : Int32) := ⟨_, rfl⟩
        have hd := hd x3_10 ex3_10
        refine lv_iinc (v := x3_10) (lv' := [(3, .int x3_10), (0, .ref (ad 0)), (1, .ref (ad x1)), (2, .ref (ad x2)), (4, .int x4)]) K.1 K.2.1 dX7_alikeTopics_37 hl (k := 3) rfl (by rw [ex3_10]; rfl) (by decide) rfl (fun ls hl => ?_)
        exact bb_X7_alikeTopics_40 K KX hr  ih x1 x2 x3_10 x4 g_6 _ _ _ hq_x1 hq_x2 hd hw (lv_sub hl [1, 2, 3, 0, 4] rfl)
set_option maxHeartbeats 4000000 in
set_option maxRecDepth 100000 in
theorem cc_X7_alikeTopics (l : Launch) (D : va_G) (cy : Nat → ClassId) (nt : Nat) (ad : Nat → Nat) (A : Nat → Prop) (X : Nat → Nat)  (g0 : Sg) (Q : Int32 → Sg → Prop) (x1 : Nat) (x2 : Nat) (hd : vv_X7_alikeTopics nt x1 x2 g0 Q) : Met l yX7_alikeTopics (Cond.code yX7_alikeTopics cX7_alikeTopics 5 (some .int) :: TT) (rmD 6) (va_Pc [.ref (ad 0), .ref (ad x1), .ref (ad x2)] (PreC (wsC cy nt ad) D cy A X g0)) (va_Qi Q (PostG (wsC cy nt ad) D A) A) 0 0 A := by
  unfold vv_X7_alikeTopics at hd
  refine Met.ofW (cc := cX7_alikeTopics) (maxL := 5) (ret := (some .int)) (by decide) rfl ?_
  intro p e s m args below meth c s₁ B hml hv
  obtain ⟨rfl, ⟨hP, hK0, hD⟩, KX⟩ := hv
  have K : Kx p s m _ meth c cX7_alikeTopics 5 RX7 D cy := ⟨B.exec, B.bytes, hml, findClass_of_methodNamed B.named, fun w h => atoms_spec (ws := Cond.code yX7_alikeTopics cX7_alikeTopics 5 (some .int) :: TT) B.pre w (List.mem_cons_of_mem _ h), hK0, B.notSynchronized⟩
  have hw : Wd D A s.heap (wsC cy nt ad g0) s.heap [] := ⟨hP, hD, va_S.rf⟩
  have hr := B.returns
  have hl := lv_entry ([.ref (ad 0), .ref (ad x1), .ref (ad x2)]) (n := 5) (Nat.le_of_ble_eq_true rfl)
  rw [lg_entry_eq]
  generalize (lg_sl ([.ref (ad 0), .ref (ad x1), .ref (ad x2)]) ++ List.replicate (5 - (lg_sl ([.ref (ad 0), .ref (ad x1), .ref (ad x2)])).length) Slot.unset).toArray = ls at hl ⊢
  have hl : lv_has ls 5 [(0, .ref (ad 0)), (1, .ref (ad x1)), (2, .ref (ad x2))] := hl
  have hq_x1 := hd.1
  have hd := hd.2
  have hq_x2 := hd.1
  have hd := hd.2
  refine lv_iconst (v := (0 : Int32)) K.1 K.2.1 dX7_alikeTopics_0 (by decide) ?_
  refine lv_topi (fun x3_1 ex3_1 => ?_)
  have hd := hd x3_1 ex3_1
  refine lv_istore_n (lv' := [(3, .int x3_1), (0, .ref (ad 0)), (1, .ref (ad x1)), (2, .ref (ad x2))]) K.1 K.2.1 dX7_alikeTopics_1 rfl hl (by decide) rfl (fun ls hl => ?_)
  refine lv_iconst (v := (0 : Int32)) K.1 K.2.1 dX7_alikeTopics_2 (by decide) ?_
  refine lv_topi (fun x4_2 ex4_2 => ?_)
  have hd := hd x4_2 ex4_2
  refine lv_istore (lv' := [(4, .int x4_2), (3, .int x3_1), (0, .ref (ad 0)), (1, .ref (ad x1)), (2, .ref (ad x2))]) K.1 K.2.1 dX7_alikeTopics_3 hl (by decide) rfl (fun ls hl => ?_)
  obtain ⟨n9, hd⟩ := hd
  exact bb_X7_alikeTopics_5 K KX hr   n9 x1 x2 x3_1 x4_2 g0 _ _ _ hq_x1 hq_x2 hd hw (lv_sub hl [2, 3, 4, 1, 0] rfl)
theorem dX7_goesWith_0 : decode cX7_goesWith 0 = .ok (.aload_n 0, 1) := by decide +kernel
theorem dX7_goesWith_1 : decode cX7_goesWith 1 = .ok (.iload_n 1, 1) := by decide +kernel
theorem dX7_goesWith_2 : decode cX7_goesWith 2 = .ok (.invokevirtual 85, 3) := by decide +kernel
theorem dX7_goesWith_5 : decode cX7_goesWith 5 = .ok (.ifCond .eq 12, 3) := by decide +kernel
theorem dX7_goesWith_8 : decode cX7_goesWith 8 = .ok (.iload_n 2, 1) := by decide +kernel
theorem dX7_goesWith_9 : decode cX7_goesWith 9 = .ok (.ifCond .lt 8, 3) := by decide +kernel
theorem dX7_goesWith_12 : decode cX7_goesWith 12 = .ok (.iload_n 2, 1) := by decide +kernel
theorem dX7_goesWith_13 : decode cX7_goesWith 13 = .ok (.iconst 1, 1) := by decide +kernel
theorem dX7_goesWith_14 : decode cX7_goesWith 14 = .ok (.if_icmp .le 6, 3) := by decide +kernel
theorem dX7_goesWith_17 : decode cX7_goesWith 17 = .ok (.bipush (-2), 2) := by decide +kernel
theorem dX7_goesWith_19 : decode cX7_goesWith 19 = .ok (.ireturn, 1) := by decide +kernel
theorem dX7_goesWith_20 : decode cX7_goesWith 20 = .ok (.iconst (-1), 1) := by decide +kernel
theorem dX7_goesWith_21 : decode cX7_goesWith 21 = .ok (.istore_n 3, 1) := by decide +kernel
theorem dX7_goesWith_22 : decode cX7_goesWith 22 = .ok (.iconst (-1), 1) := by decide +kernel
theorem dX7_goesWith_23 : decode cX7_goesWith 23 = .ok (.istore 4, 2) := by decide +kernel
theorem dX7_goesWith_25 : decode cX7_goesWith 25 = .ok (.iconst 0, 1) := by decide +kernel
theorem dX7_goesWith_26 : decode cX7_goesWith 26 = .ok (.istore 5, 2) := by decide +kernel
theorem dX7_goesWith_28 : decode cX7_goesWith 28 = .ok (.iload 5, 2) := by decide +kernel
theorem dX7_goesWith_30 : decode cX7_goesWith 30 = .ok (.aload_n 0, 1) := by decide +kernel
theorem dX7_goesWith_31 : decode cX7_goesWith 31 = .ok (.getfield 10, 3) := by decide +kernel
theorem dX7_goesWith_34 : decode cX7_goesWith 34 = .ok (.getfield 117, 3) := by decide +kernel
theorem dX7_goesWith_37 : decode cX7_goesWith 37 = .ok (.if_icmp .ge 70, 3) := by decide +kernel
theorem dX7_goesWith_40 : decode cX7_goesWith 40 = .ok (.iload 5, 2) := by decide +kernel
theorem dX7_goesWith_42 : decode cX7_goesWith 42 = .ok (.iload_n 1, 1) := by decide +kernel
theorem dX7_goesWith_43 : decode cX7_goesWith 43 = .ok (.if_icmp .eq 58, 3) := by decide +kernel
theorem dX7_goesWith_46 : decode cX7_goesWith 46 = .ok (.aload_n 0, 1) := by decide +kernel
theorem dX7_goesWith_47 : decode cX7_goesWith 47 = .ok (.getfield 10, 3) := by decide +kernel
theorem dX7_goesWith_50 : decode cX7_goesWith 50 = .ok (.getfield 106, 3) := by decide +kernel
theorem dX7_goesWith_53 : decode cX7_goesWith 53 = .ok (.iload 5, 2) := by decide +kernel
theorem dX7_goesWith_55 : decode cX7_goesWith 55 = .ok (.aaload, 1) := by decide +kernel
theorem dX7_goesWith_56 : decode cX7_goesWith 56 = .ok (.getfield 151, 3) := by decide +kernel
theorem dX7_goesWith_59 : decode cX7_goesWith 59 = .ok (.ifCond .ne 42, 3) := by decide +kernel
theorem dX7_goesWith_62 : decode cX7_goesWith 62 = .ok (.aload_n 0, 1) := by decide +kernel
theorem dX7_goesWith_63 : decode cX7_goesWith 63 = .ok (.aload_n 0, 1) := by decide +kernel
theorem dX7_goesWith_64 : decode cX7_goesWith 64 = .ok (.getfield 10, 3) := by decide +kernel
theorem dX7_goesWith_67 : decode cX7_goesWith 67 = .ok (.getfield 106, 3) := by decide +kernel
theorem dX7_goesWith_70 : decode cX7_goesWith 70 = .ok (.iload_n 1, 1) := by decide +kernel
theorem dX7_goesWith_71 : decode cX7_goesWith 71 = .ok (.aaload, 1) := by decide +kernel
theorem dX7_goesWith_72 : decode cX7_goesWith 72 = .ok (.aload_n 0, 1) := by decide +kernel
theorem dX7_goesWith_73 : decode cX7_goesWith 73 = .ok (.getfield 10, 3) := by decide +kernel
theorem dX7_goesWith_76 : decode cX7_goesWith 76 = .ok (.getfield 106, 3) := by decide +kernel
theorem dX7_goesWith_79 : decode cX7_goesWith 79 = .ok (.iload 5, 2) := by decide +kernel
theorem dX7_goesWith_81 : decode cX7_goesWith 81 = .ok (.aaload, 1) := by decide +kernel
theorem dX7_goesWith_82 : decode cX7_goesWith 82 = .ok (.invokevirtual 240, 3) := by decide +kernel
theorem dX7_goesWith_85 : decode cX7_goesWith 85 = .ok (.istore 6, 2) := by decide +kernel
theorem dX7_goesWith_87 : decode cX7_goesWith 87 = .ok (.iload 6, 2) := by decide +kernel
theorem dX7_goesWith_89 : decode cX7_goesWith 89 = .ok (.iload 4, 2) := by decide +kernel
theorem dX7_goesWith_91 : decode cX7_goesWith 91 = .ok (.if_icmp .le 10, 3) := by decide +kernel
theorem dX7_goesWith_94 : decode cX7_goesWith 94 = .ok (.iload 6, 2) := by decide +kernel
theorem dX7_goesWith_96 : decode cX7_goesWith 96 = .ok (.istore 4, 2) := by decide +kernel
theorem dX7_goesWith_98 : decode cX7_goesWith 98 = .ok (.iload 5, 2) := by decide +kernel
theorem dX7_goesWith_100 : decode cX7_goesWith 100 = .ok (.istore_n 3, 1) := by decide +kernel
theorem dX7_goesWith_101 : decode cX7_goesWith 101 = .ok (.iinc 5 1, 3) := by decide +kernel
theorem dX7_goesWith_104 : decode cX7_goesWith 104 = .ok (.goto (-76), 3) := by decide +kernel
theorem dX7_goesWith_107 : decode cX7_goesWith 107 = .ok (.iload_n 2, 1) := by decide +kernel
theorem dX7_goesWith_108 : decode cX7_goesWith 108 = .ok (.ifCond .ne 7, 3) := by decide +kernel
theorem dX7_goesWith_111 : decode cX7_goesWith 111 = .ok (.iload_n 3, 1) := by decide +kernel
theorem dX7_goesWith_112 : decode cX7_goesWith 112 = .ok (.goto 5, 3) := by decide +kernel
theorem dX7_goesWith_115 : decode cX7_goesWith 115 = .ok (.iload 4, 2) := by decide +kernel
theorem dX7_goesWith_117 : decode cX7_goesWith 117 = .ok (.ireturn, 1) := by decide +kernel
set_option maxHeartbeats 4000000 in
set_option maxRecDepth 100000 in
theorem bb_X7_goesWith_101 {p : Program} {l : Launch} {e : Env} {s : State} {m : MethodId} {args : Array Value} {below : List Frame} {meth : Method} {c : Code} {D : va_G} {cy : Nat → ClassId} {nt : Nat} {ad : Nat → Nat} {A : Nat → Prop} {X : Nat → Nat} {Q : Int32 → Sg → Prop} (K : Kx p s m args meth c cX7_goesWith 7 RX7 D cy) (KX : XC X A s s.heap) (hr : meth.sig.returnType = (some .int))  {rc28 : Int32 → Int32 → Int32 → Int32 → Int32 → Sg → Prop} (hrc28 : ∀ (x1 : Int32) (x2 : Int32) (x3 : Int32) (x4 : Int32) (x5 : Int32) (u : Sg) (H : Heap) (locs : List Loc) (ls : Array Slot), rc28 x1 x2 x3 x4 x5 u → Wd D A s.heap (wsC cy nt ad u) H locs → lv_has ls 7 [(0, .ref (ad 0)), (1, .int x1), (2, .int x2), (3, .int x3), (4, .int x4), (5, .int x5)] → W p l e (rmD 7) s m args below meth c H locs 0 0 (MQ below (va_Qi Q (PostG (wsC cy nt ad) D A) A) args s 0 0 A) (F0 m 28 ls [])) (x1 : Int32) (x2 : Int32) (x3 : Int32) (x4 : Int32) (x5 : Int32)  (g0 : Sg) (H : Heap) (locs : List Loc) (ls : Array Slot) (hd : vv_X7_goesWith_J101 nt rc28 x1 x2 x3 x4 x5 g0 Q) (hw : Wd D A s.heap (wsC cy nt ad g0) H locs) (hl : lv_has ls 7 [(0, .ref (ad 0)), (1, .int x1), (2, .int x2), (3, .int x3), (4, .int x4), (5, .int x5)]) : W p l e (rmD 7) s m args below meth c H locs 0 0 (MQ below (va_Qi Q (PostG (wsC cy nt ad) D A) A) args s 0 0 A) (F0 m 101 ls []) := by
  unfold vv_X7_goesWith_J101 at hd
  obtain ⟨x5_12, ex5_12⟩ : ∃ y : Int32, y = x5 + (1 : Int32) := ⟨_, rfl⟩
  have hd := hd x5_12 ex5_12
  refine lv_iinc (v := x5_12) (lv' := [(5, .int x5_12), (0, .ref (ad 0)), (1, .int x1), (2, .int x2), (3, .int x3), (4, .int x4)]) K.1 K.2.1 dX7_goesWith_101 hl (k := 5) rfl (by rw [ex5_12]; rfl) (by decide) rfl (fun ls hl => ?_)
  refine lv_goto (tgt := 28) K.1 K.2.1 dX7_goesWith_104 (by decide) ?_
  exact hrc28 x1 x2 x3 x4 x5_12 g0 _ _ _  hd hw (lv_sub hl [1, 2, 3, 4, 5, 0] rfl)
set_option maxHeartbeats 4000000 in
set_option maxRecDepth 100000 in
theorem bb_X7_goesWith_28 {p : Program} {l : Launch} {e : Env} {s : State} {m : MethodId} {args : Array Value} {below : List Frame} {meth : Method} {c : Code} {D : va_G} {cy : Nat → ClassId} {nt : Nat} {ad : Nat → Nat} {A : Nat → Prop} {X : Nat → Nat} {Q : Int32 → Sg → Prop} (K : Kx p s m args meth c cX7_goesWith 7 RX7 D cy) (KX : XC X A s s.heap) (hr : meth.sig.returnType = (some .int))  : ∀ (n : Nat) (x1 : Int32) (x2 : Int32) (x3 : Int32) (x4 : Int32) (x5 : Int32)  (g0 : Sg) (H : Heap) (locs : List Loc) (ls : Array Slot), vv_X7_goesWith_L28 nt Q n x1 x2 x3 x4 x5 g0 → Wd D A s.heap (wsC cy nt ad g0) H locs → lv_has ls 7 [(0, .ref (ad 0)), (1, .int x1), (2, .int x2), (3, .int x3), (4, .int x4), (5, .int x5)] → W p l e (rmD 7) s m args below meth c H locs 0 0 (MQ below (va_Qi Q (PostG (wsC cy nt ad) D A) A) args s 0 0 A) (F0 m 28 ls []) := by
  intro n
  induction n with
  | zero => intro _ _ _ _ _ _ _ _ _ hd; exact hd.elim
  | succ n ih =>
    intro x1 x2 x3 x4 x5 g0 H locs ls  hd hw hl
    unfold vv_X7_goesWith_L28 at hd
    refine lv_iload K.1 K.2.1 dX7_goesWith_28 (lv_at hl 5 rfl) ?_
    refine lv_aload_n K.1 K.2.1 dX7_goesWith_30 rfl (lv_at hl 0 rfl) ?_
    refine rc_get layX7 (ci := 7) rfl 0 (by decide) (v := .ref (ad 1)) K hw (wc_O cy nt ad _) kf_X7_10 rfl dX7_goesWith_31 ?_
    refine rc_get layX0 (ci := 0) rfl 2 (by decide) (v := .int (g0 1 2)) K hw (wc_B cy nt ad _ ⟨by decide, by decide⟩) kf_X7_117 rfl dX7_goesWith_34 ?_
    refine lv_icmp_ge (tgt := 107) K.1 K.2.1 dX7_goesWith_37 (by decide) (fun h_9 => ?_) (fun h_9 => ?_)
    · have hd := hd.1 h_9
      refine lv_iload_n K.1 K.2.1 dX7_goesWith_107 rfl (lv_at hl 2 rfl) ?_
      refine lv_if_ne (tgt := 115) K.1 K.2.1 dX7_goesWith_108 (by decide) (fun h_10 => ?_) (fun h_10 => ?_)
      · have hd := hd.1 h_10
        refine lv_iload K.1 K.2.1 dX7_goesWith_115 (lv_at hl 4 rfl) ?_
        exact rk_iret K hw hr hd dX7_goesWith_117
      · have hd := hd.2 h_10
        refine lv_iload_n K.1 K.2.1 dX7_goesWith_111 rfl (lv_at hl 3 rfl) ?_
        refine lv_goto (tgt := 117) K.1 K.2.1 dX7_goesWith_112 (by decide) ?_
        exact rk_iret K hw hr hd dX7_goesWith_117
    · have hd := hd.2 h_9
      refine lv_iload K.1 K.2.1 dX7_goesWith_40 (lv_at hl 5 rfl) ?_
      refine lv_iload_n K.1 K.2.1 dX7_goesWith_42 rfl (lv_at hl 1 rfl) ?_
      refine lv_icmp_eq (tgt := 101) K.1 K.2.1 dX7_goesWith_43 (by decide) (fun h_11 => ?_) (fun h_11 => ?_)
      · have hd := hd.1 h_11
        exact bb_X7_goesWith_101 K KX hr  ih x1 x2 x3 x4 x5 g0 _ _ _  hd hw (lv_sub hl [0, 1, 2, 3, 4, 5] rfl)
      · have hd := hd.2 h_11
        refine lv_aload_n K.1 K.2.1 dX7_goesWith_46 rfl (lv_at hl 0 rfl) ?_
        refine rc_get layX7 (ci := 7) rfl 0 (by decide) (v := .ref (ad 1)) K hw (wc_O cy nt ad _) kf_X7_10 rfl dX7_goesWith_47 ?_
        refine rc_get layX0 (ci := 0) rfl 4 (by decide) (v := .ref (ad 4)) K hw (wc_B cy nt ad _ ⟨by decide, by decide⟩) kf_X7_106 rfl dX7_goesWith_50 ?_
        refine lv_iload K.1 K.2.1 dX7_goesWith_53 (lv_at hl 5 rfl) ?_
        have hb_13 := hd.1
        have hd := hd.2
        refine rc_aald (t0 := 2) (b := ad (pp 4 x5)) K hw (wc_R cy nt ad _ ⟨by decide, by decide⟩) rfl rfl hb_13 dX7_goesWith_55 ?_
        refine rc_get layX1 (ci := 1) rfl 5 (by decide) (v := .int (g0 (pp 4 x5) 5)) K hw (wc_P cy nt ad _ (tR_P ⟨by decide, by decide⟩ hb_13)) kf_X7_151 rfl dX7_goesWith_56 ?_
        refine lv_if_ne (tgt := 101) K.1 K.2.1 dX7_goesWith_59 (by decide) (fun h_14 => ?_) (fun h_14 => ?_)
        · have hd := hd.1 h_14
          exact bb_X7_goesWith_101 K KX hr  ih x1 x2 x3 x4 x5 g0 _ _ _  hd hw (lv_sub hl [0, 1, 2, 3, 4, 5] rfl)
        · have hd := hd.2 h_14
          refine lv_aload_n K.1 K.2.1 dX7_goesWith_62 rfl (lv_at hl 0 rfl) ?_
          refine lv_aload_n K.1 K.2.1 dX7_goesWith_63 rfl (lv_at hl 0 rfl) ?_
          refine rc_get layX7 (ci := 7) rfl 0 (by decide) (v := .ref (ad 1)) K hw (wc_O cy nt ad _) kf_X7_10 rfl dX7_goesWith_64 ?_
          refine rc_get layX0 (ci := 0) rfl 4 (by decide) (v := .ref (ad 4)) K hw (wc_B cy nt ad _ ⟨by decide, by decide⟩) kf_X7_106 rfl dX7_goesWith_67 ?_
          refine lv_iload_n K.1 K.2.1 dX7_goesWith_70 rfl (lv_at hl 1 rfl) ?_
          have hb_15 := hd.1
          have hd := hd.2
          refine rc_aald (t0 := 2) (b := ad (pp 4 x1)) K hw (wc_R cy nt ad _ ⟨by decide, by decide⟩) rfl rfl hb_15 dX7_goesWith_71 ?_
          refine lv_aload_n K.1 K.2.1 dX7_goesWith_72 rfl (lv_at hl 0 rfl) ?_
          refine rc_get layX7 (ci := 7) rfl 0 (by decide) (v := .ref (ad 1)) K hw (wc_O cy nt ad _) kf_X7_10 rfl dX7_goesWith_73 ?_
          refine rc_get layX0 (ci := 0) rfl 4 (by decide) (v := .ref (ad 4)) K hw (wc_B cy nt ad _ ⟨by decide, by decide⟩) kf_X7_106 rfl dX7_goesWith_76 ?_
          refine lv_iload K.1 K.2.1 dX7_goesWith_79 (lv_at hl 5 rfl) ?_
          have hb_16 := hd.1
          have hd := hd.2
          refine rc_aald (t0 := 2) (b := ad (pp 4 x5)) K hw (wc_R cy nt ad _ ⟨by decide, by decide⟩) rfl rfl hb_16 dX7_goesWith_81 ?_
          refine rkc_vi (As := [.ref (ad (pp 4 x1)), .ref (ad (pp 4 x5))]) (rest := []) K KX hw (cc_X7_alikeTopics l D cy nt ad A X g0 _ (pp 4 x1) (pp 4 x5) hd) lk_X7_240 (ci := 7) rfl (wc_O cy nt ad _) ⟨Nat.le_of_ble_eq_true rfl, Nat.le_of_ble_eq_true rfl⟩ ⟨Nat.zero_le _, Nat.zero_le _⟩ rfl hl.1 (Nat.le_of_ble_eq_true rfl) rfl dX7_goesWith_82 (fun r_18 g_17 H locs hd hw => ?_)
          refine lv_topi (fun x6_19 ex6_19 => ?_)
          have hd := hd x6_19 ex6_19
          refine lv_istore (lv' := [(6, .int x6_19), (0, .ref (ad 0)), (1, .int x1), (2, .int x2), (3, .int x3), (4, .int x4), (5, .int x5)]) K.1 K.2.1 dX7_goesWith_85 hl (by decide) rfl (fun ls hl => ?_)
          refine lv_iload K.1 K.2.1 dX7_goesWith_87 (lv_at hl 0 rfl) ?_
          refine lv_iload K.1 K.2.1 dX7_goesWith_89 (lv_at hl 5 rfl) ?_
          refine lv_icmp_le (tgt := 101) K.1 K.2.1 dX7_goesWith_91 (by decide) (fun h_20 => ?_) (fun h_20 => ?_)
          · have hd := hd.1 h_20
            exact bb_X7_goesWith_101 K KX hr  ih x1 x2 x3 x4 x5 g_17 _ _ _  hd hw (lv_sub hl [1, 2, 3, 4, 5, 6] rfl)
          · have hd := hd.2 h_20
            refine lv_iload K.1 K.2.1 dX7_goesWith_94 (lv_at hl 0 rfl) ?_
            refine lv_topi (fun x4_21 ex4_21 => ?_)
            have hd := hd x4_21 ex4_21
            refine lv_istore (lv' := [(4, .int x4_21), (6, .int x6_19), (0, .ref (ad 0)), (1, .int x1), (2, .int x2), (3, .int x3), (5, .int x5)]) K.1 K.2.1 dX7_goesWith_96 hl (by decide) rfl (fun ls hl => ?_)
            refine lv_iload K.1 K.2.1 dX7_goesWith_98 (lv_at hl 6 rfl) ?_
            refine lv_topi (fun x3_22 ex3_22 => ?_)
            have hd := hd x3_22 ex3_22
            refine lv_istore_n (lv' := [(3, .int x3_22), (4, .int x4_21), (6, .int x6_19), (0, .ref (ad 0)), (1, .int x1), (2, .int x2), (5, .int x5)]) K.1 K.2.1 dX7_goesWith_100 rfl hl (by decide) rfl (fun ls hl => ?_)
            exact bb_X7_goesWith_101 K KX hr  ih x1 x2 x3_22 x4_21 x5 g_17 _ _ _  hd hw (lv_sub hl [3, 4, 5, 0, 1, 6] rfl)
set_option maxHeartbeats 4000000 in
set_option maxRecDepth 100000 in
theorem cc_X7_goesWith (l : Launch) (D : va_G) (cy : Nat → ClassId) (nt : Nat) (ad : Nat → Nat) (A : Nat → Prop) (X : Nat → Nat)  (g0 : Sg) (Q : Int32 → Sg → Prop) (x1 : Int32) (x2 : Int32) (hd : vv_X7_goesWith nt x1 x2 g0 Q) : Met l yX7_goesWith (Cond.code yX7_goesWith cX7_goesWith 7 (some .int) :: TT) (rmD 7) (va_Pc [.ref (ad 0), .int x1, .int x2] (PreC (wsC cy nt ad) D cy A X g0)) (va_Qi Q (PostG (wsC cy nt ad) D A) A) 0 0 A := by
  unfold vv_X7_goesWith at hd
  refine Met.ofW (cc := cX7_goesWith) (maxL := 7) (ret := (some .int)) (by decide) rfl ?_
  intro p e s m args below meth c s₁ B hml hv
  obtain ⟨rfl, ⟨hP, hK0, hD⟩, KX⟩ := hv
  have K : Kx p s m _ meth c cX7_goesWith 7 RX7 D cy := ⟨B.exec, B.bytes, hml, findClass_of_methodNamed B.named, fun w h => atoms_spec (ws := Cond.code yX7_goesWith cX7_goesWith 7 (some .int) :: TT) B.pre w (List.mem_cons_of_mem _ h), hK0, B.notSynchronized⟩
  have hw : Wd D A s.heap (wsC cy nt ad g0) s.heap [] := ⟨hP, hD, va_S.rf⟩
  have hr := B.returns
  have hl := lv_entry ([.ref (ad 0), .int x1, .int x2]) (n := 7) (Nat.le_of_ble_eq_true rfl)
  rw [lg_entry_eq]
  generalize (lg_sl ([.ref (ad 0), .int x1, .int x2]) ++ List.replicate (7 - (lg_sl ([.ref (ad 0), .int x1, .int x2])).length) Slot.unset).toArray = ls at hl ⊢
  have hl : lv_has ls 7 [(0, .ref (ad 0)), (1, .int x1), (2, .int x2)] := hl
  refine lv_aload_n K.1 K.2.1 dX7_goesWith_0 rfl (lv_at hl 0 rfl) ?_
  refine lv_iload_n K.1 K.2.1 dX7_goesWith_1 rfl (lv_at hl 1 rfl) ?_
  refine rkc_vi (As := [.int x1]) (rest := []) K KX hw (cc_X7_isPaper l D cy nt ad A X g0 _ x1 hd) lk_X7_85 (ci := 7) rfl (wc_O cy nt ad _) ⟨Nat.le_of_ble_eq_true rfl, Nat.le_of_ble_eq_true rfl⟩ ⟨Nat.zero_le _, Nat.zero_le _⟩ rfl hl.1 (Nat.le_of_ble_eq_true rfl) rfl dX7_goesWith_2 (fun r_2 g_1 H locs hd hw => ?_)
  refine lv_if_eq (tgt := 17) K.1 K.2.1 dX7_goesWith_5 (by decide) (fun h_3 => ?_) (fun h_3 => ?_)
  · have hd := hd.1 h_3
    refine lv_bipush (v := (-2 : Int32)) K.1 K.2.1 dX7_goesWith_17 (by decide) ?_
    exact rk_iret K hw hr hd dX7_goesWith_19
  · have hd := hd.2 h_3
    refine lv_iload_n K.1 K.2.1 dX7_goesWith_8 rfl (lv_at hl 2 rfl) ?_
    refine lv_if_lt (tgt := 17) K.1 K.2.1 dX7_goesWith_9 (by decide) (fun h_4 => ?_) (fun h_4 => ?_)
    · have hd := hd.1 h_4
      refine lv_bipush (v := (-2 : Int32)) K.1 K.2.1 dX7_goesWith_17 (by decide) ?_
      exact rk_iret K hw hr hd dX7_goesWith_19
    · have hd := hd.2 h_4
      refine lv_iload_n K.1 K.2.1 dX7_goesWith_12 rfl (lv_at hl 2 rfl) ?_
      refine lv_iconst (v := (1 : Int32)) K.1 K.2.1 dX7_goesWith_13 (by decide) ?_
      refine lv_icmp_le (tgt := 20) K.1 K.2.1 dX7_goesWith_14 (by decide) (fun h_5 => ?_) (fun h_5 => ?_)
      · have hd := hd.1 h_5
        refine lv_iconst (v := (-1 : Int32)) K.1 K.2.1 dX7_goesWith_20 (by decide) ?_
        refine lv_topi (fun x3_6 ex3_6 => ?_)
        have hd := hd x3_6 ex3_6
        refine lv_istore_n (lv' := [(3, .int x3_6), (0, .ref (ad 0)), (1, .int x1), (2, .int x2)]) K.1 K.2.1 dX7_goesWith_21 rfl hl (by decide) rfl (fun ls hl => ?_)
        refine lv_iconst (v := (-1 : Int32)) K.1 K.2.1 dX7_goesWith_22 (by decide) ?_
        refine lv_topi (fun x4_7 ex4_7 => ?_)
        have hd := hd x4_7 ex4_7
        refine lv_istore (lv' := [(4, .int x4_7), (3, .int x3_6), (0, .ref (ad 0)), (1, .int x1), (2, .int x2)]) K.1 K.2.1 dX7_goesWith_23 hl (by decide) rfl (fun ls hl => ?_)
        refine lv_iconst (v := (0 : Int32)) K.1 K.2.1 dX7_goesWith_25 (by decide) ?_
        refine lv_topi (fun x5_8 ex5_8 => ?_)
        have hd := hd x5_8 ex5_8
        refine lv_istore (lv' := [(5, .int x5_8), (4, .int x4_7), (3, .int x3_6), (0, .ref (ad 0)), (1, .int x1), (2, .int x2)]) K.1 K.2.1 dX7_goesWith_26 hl (by decide) rfl (fun ls hl => ?_)
        obtain ⟨n9, hd⟩ := hd
        exact bb_X7_goesWith_28 K KX hr   n9 x1 x2 x3_6 x4_7 x5_8 g_1 _ _ _  hd hw (lv_sub hl [3, 4, 5, 2, 1, 0] rfl)
      · have hd := hd.2 h_5
        refine lv_bipush (v := (-2 : Int32)) K.1 K.2.1 dX7_goesWith_17 (by decide) ?_
        exact rk_iret K hw hr hd dX7_goesWith_19
theorem dX7_isSheet_0 : decode cX7_isSheet 0 = .ok (.iload_n 0, 1) := by decide +kernel
theorem dX7_isSheet_1 : decode cX7_isSheet 1 = .ok (.ifCond .lt 12, 3) := by decide +kernel
theorem dX7_isSheet_4 : decode cX7_isSheet 4 = .ok (.iload_n 0, 1) := by decide +kernel
theorem dX7_isSheet_5 : decode cX7_isSheet 5 = .ok (.iconst 4, 1) := by decide +kernel
theorem dX7_isSheet_6 : decode cX7_isSheet 6 = .ok (.if_icmp .ge 7, 3) := by decide +kernel
theorem dX7_isSheet_9 : decode cX7_isSheet 9 = .ok (.iconst 1, 1) := by decide +kernel
theorem dX7_isSheet_10 : decode cX7_isSheet 10 = .ok (.goto 4, 3) := by decide +kernel
theorem dX7_isSheet_13 : decode cX7_isSheet 13 = .ok (.iconst 0, 1) := by decide +kernel
theorem dX7_isSheet_14 : decode cX7_isSheet 14 = .ok (.ireturn, 1) := by decide +kernel
set_option maxHeartbeats 4000000 in
set_option maxRecDepth 100000 in
theorem cc_X7_isSheet (l : Launch) (D : va_G) (cy : Nat → ClassId) (nt : Nat) (ad : Nat → Nat) (A : Nat → Prop) (X : Nat → Nat)  (g0 : Sg) (Q : Int32 → Sg → Prop) (x0 : Int32) (hd : vv_X7_isSheet nt x0 g0 Q) : Met l yX7_isSheet (Cond.code yX7_isSheet cX7_isSheet 1 (some .boolean) :: TT) (rmD 1) (va_Pc [.int x0] (PreC (wsC cy nt ad) D cy A X g0)) (va_Qi Q (PostG (wsC cy nt ad) D A) A) 0 0 A := by
  unfold vv_X7_isSheet at hd
  refine Met.ofW (cc := cX7_isSheet) (maxL := 1) (ret := (some .boolean)) (by decide) rfl ?_
  intro p e s m args below meth c s₁ B hml hv
  obtain ⟨rfl, ⟨hP, hK0, hD⟩, KX⟩ := hv
  have K : Kx p s m _ meth c cX7_isSheet 1 RX7 D cy := ⟨B.exec, B.bytes, hml, findClass_of_methodNamed B.named, fun w h => atoms_spec (ws := Cond.code yX7_isSheet cX7_isSheet 1 (some .boolean) :: TT) B.pre w (List.mem_cons_of_mem _ h), hK0, B.notSynchronized⟩
  have hw : Wd D A s.heap (wsC cy nt ad g0) s.heap [] := ⟨hP, hD, va_S.rf⟩
  have hr := B.returns
  have hl := lv_entry ([.int x0]) (n := 1) (Nat.le_of_ble_eq_true rfl)
  rw [lg_entry_eq]
  generalize (lg_sl ([.int x0]) ++ List.replicate (1 - (lg_sl ([.int x0])).length) Slot.unset).toArray = ls at hl ⊢
  have hl : lv_has ls 1 [(0, .int x0)] := hl
  refine lv_iload_n K.1 K.2.1 dX7_isSheet_0 rfl (lv_at hl 0 rfl) ?_
  refine lv_if_lt (tgt := 13) K.1 K.2.1 dX7_isSheet_1 (by decide) (fun h_1 => ?_) (fun h_1 => ?_)
  · have hd := hd.1 h_1
    refine lv_iconst (v := (0 : Int32)) K.1 K.2.1 dX7_isSheet_13 (by decide) ?_
    exact rk_zret K hw hr (by decide) hd dX7_isSheet_14
  · have hd := hd.2 h_1
    refine lv_iload_n K.1 K.2.1 dX7_isSheet_4 rfl (lv_at hl 0 rfl) ?_
    refine lv_iconst (v := (4 : Int32)) K.1 K.2.1 dX7_isSheet_5 (by decide) ?_
    refine lv_icmp_ge (tgt := 13) K.1 K.2.1 dX7_isSheet_6 (by decide) (fun h_2 => ?_) (fun h_2 => ?_)
    · have hd := hd.1 h_2
      refine lv_iconst (v := (0 : Int32)) K.1 K.2.1 dX7_isSheet_13 (by decide) ?_
      exact rk_zret K hw hr (by decide) hd dX7_isSheet_14
    · have hd := hd.2 h_2
      refine lv_iconst (v := (1 : Int32)) K.1 K.2.1 dX7_isSheet_9 (by decide) ?_
      refine lv_goto (tgt := 14) K.1 K.2.1 dX7_isSheet_10 (by decide) ?_
      exact rk_zret K hw hr (by decide) hd dX7_isSheet_14
theorem dX7_firstOtherwise_0 : decode cX7_firstOtherwise 0 = .ok (.iconst 0, 1) := by decide +kernel
theorem dX7_firstOtherwise_1 : decode cX7_firstOtherwise 1 = .ok (.istore 4, 2) := by decide +kernel
theorem dX7_firstOtherwise_3 : decode cX7_firstOtherwise 3 = .ok (.iload 4, 2) := by decide +kernel
theorem dX7_firstOtherwise_5 : decode cX7_firstOtherwise 5 = .ok (.bipush 8, 2) := by decide +kernel
theorem dX7_firstOtherwise_7 : decode cX7_firstOtherwise 7 = .ok (.if_icmp .ge 35, 3) := by decide +kernel
theorem dX7_firstOtherwise_10 : decode cX7_firstOtherwise 10 = .ok (.aload_n 1, 1) := by decide +kernel
theorem dX7_firstOtherwise_11 : decode cX7_firstOtherwise 11 = .ok (.iload 4, 2) := by decide +kernel
theorem dX7_firstOtherwise_13 : decode cX7_firstOtherwise 13 = .ok (.invokevirtual 300, 3) := by decide +kernel
theorem dX7_firstOtherwise_16 : decode cX7_firstOtherwise 16 = .ok (.aload_n 2, 1) := by decide +kernel
theorem dX7_firstOtherwise_17 : decode cX7_firstOtherwise 17 = .ok (.iload 4, 2) := by decide +kernel
theorem dX7_firstOtherwise_19 : decode cX7_firstOtherwise 19 = .ok (.aload_n 3, 1) := by decide +kernel
theorem dX7_firstOtherwise_20 : decode cX7_firstOtherwise 20 = .ok (.aload_n 0, 1) := by decide +kernel
theorem dX7_firstOtherwise_21 : decode cX7_firstOtherwise 21 = .ok (.getfield 10, 3) := by decide +kernel
theorem dX7_firstOtherwise_24 : decode cX7_firstOtherwise 24 = .ok (.getfield 100, 3) := by decide +kernel
theorem dX7_firstOtherwise_27 : decode cX7_firstOtherwise 27 = .ok (.invokestatic 273, 3) := by decide +kernel
theorem dX7_firstOtherwise_30 : decode cX7_firstOtherwise 30 = .ok (.if_icmp .eq 6, 3) := by decide +kernel
theorem dX7_firstOtherwise_33 : decode cX7_firstOtherwise 33 = .ok (.iload 4, 2) := by decide +kernel
theorem dX7_firstOtherwise_35 : decode cX7_firstOtherwise 35 = .ok (.ireturn, 1) := by decide +kernel
theorem dX7_firstOtherwise_36 : decode cX7_firstOtherwise 36 = .ok (.iinc 4 1, 3) := by decide +kernel
theorem dX7_firstOtherwise_39 : decode cX7_firstOtherwise 39 = .ok (.goto (-36), 3) := by decide +kernel
theorem dX7_firstOtherwise_42 : decode cX7_firstOtherwise 42 = .ok (.iconst (-1), 1) := by decide +kernel
theorem dX7_firstOtherwise_43 : decode cX7_firstOtherwise 43 = .ok (.ireturn, 1) := by decide +kernel
set_option maxHeartbeats 4000000 in
set_option maxRecDepth 100000 in
theorem bb_X7_firstOtherwise_3 {p : Program} {l : Launch} {e : Env} {s : State} {m : MethodId} {args : Array Value} {below : List Frame} {meth : Method} {c : Code} {D : va_G} {cy : Nat → ClassId} {nt : Nat} {ad : Nat → Nat} {A : Nat → Prop} {X : Nat → Nat} {Q : Int32 → Sg → Prop} (K : Kx p s m args meth c cX7_firstOtherwise 5 RX7 D cy) (KX : XC X A s s.heap) (hr : meth.sig.returnType = (some .int))  : ∀ (n : Nat) (x1 : Nat) (x2 : Nat) (x3 : Nat) (x4 : Int32)  (g0 : Sg) (H : Heap) (locs : List Loc) (ls : Array Slot), isS x1 → isP x2 → isT nt x3 → vv_X7_firstOtherwise_L3 nt Q n x1 x2 x3 x4 g0 → Wd D A s.heap (wsC cy nt ad g0) H locs → lv_has ls 5 [(0, .ref (ad 0)), (1, .ref (ad x1)), (2, .ref (ad x2)), (3, .ref (ad x3)), (4, .int x4)] → W p l e (rmD 5) s m args below meth c H locs 0 0 (MQ below (va_Qi Q (PostG (wsC cy nt ad) D A) A) args s 0 0 A) (F0 m 3 ls []) := by
  intro n
  induction n with
  | zero => intro _ _ _ _ _ _ _ _ _ _ _ hd; exact hd.elim
  | succ n ih =>
    intro x1 x2 x3 x4 g0 H locs ls hq_x1 hq_x2 hq_x3 hd hw hl
    unfold vv_X7_firstOtherwise_L3 at hd
    refine lv_iload K.1 K.2.1 dX7_firstOtherwise_3 (lv_at hl 4 rfl) ?_
    refine lv_bipush (v := (8 : Int32)) K.1 K.2.1 dX7_firstOtherwise_5 (by decide) ?_
    refine lv_icmp_ge (tgt := 42) K.1 K.2.1 dX7_firstOtherwise_7 (by decide) (fun h_2 => ?_) (fun h_2 => ?_)
    · have hd := hd.1 h_2
      refine lv_iconst (v := (-1 : Int32)) K.1 K.2.1 dX7_firstOtherwise_42 (by decide) ?_
      exact rk_iret K hw hr hd dX7_firstOtherwise_43
    · have hd := hd.2 h_2
      refine lv_aload_n K.1 K.2.1 dX7_firstOtherwise_10 rfl (lv_at hl 1 rfl) ?_
      refine lv_iload K.1 K.2.1 dX7_firstOtherwise_11 (lv_at hl 4 rfl) ?_
      refine rkc_vi (As := [.int x4]) (rest := []) K KX hw (cc_X3_get l D cy nt ad A X g0 _ x1 x4 hd) lk_X7_300 (ci := 3) rfl (wc_S cy nt ad _ hq_x1) ⟨Nat.le_of_ble_eq_true rfl, Nat.le_of_ble_eq_true rfl⟩ ⟨Nat.zero_le _, Nat.zero_le _⟩ rfl hl.1 (Nat.le_of_ble_eq_true rfl) rfl dX7_firstOtherwise_13 (fun r_4 g_3 H locs hd hw => ?_)
      refine lv_aload_n K.1 K.2.1 dX7_firstOtherwise_16 rfl (lv_at hl 2 rfl) ?_
      refine lv_iload K.1 K.2.1 dX7_firstOtherwise_17 (lv_at hl 4 rfl) ?_
      refine lv_aload_n K.1 K.2.1 dX7_firstOtherwise_19 rfl (lv_at hl 3 rfl) ?_
      refine lv_aload_n K.1 K.2.1 dX7_firstOtherwise_20 rfl (lv_at hl 0 rfl) ?_
      refine rc_get layX7 (ci := 7) rfl 0 (by decide) (v := .ref (ad 1)) K hw (wc_O cy nt ad _) kf_X7_10 rfl dX7_firstOtherwise_21 ?_
      refine rc_get layX0 (ci := 0) rfl 0 (by decide) (v := .int (g_3 1 0)) K hw (wc_B cy nt ad _ ⟨by decide, by decide⟩) kf_X7_100 rfl dX7_firstOtherwise_24 ?_
      refine rkc_si (As := [.ref (ad x2), .int x4, .ref (ad x3), .int (g_3 1 0)]) (rest := [.int r_4]) K KX hw (cc_X7_voteOf l D cy nt ad A X g_3 _ x2 x4 x3 (g_3 1 0) hd) lk_X7_273 ⟨Nat.le_of_ble_eq_true rfl, Nat.le_of_ble_eq_true rfl⟩ ⟨Nat.zero_le _, Nat.zero_le _⟩ rfl hl.1 (Nat.le_of_ble_eq_true rfl) rfl dX7_firstOtherwise_27 (fun r_6 g_5 H locs hd hw => ?_)
      refine lv_icmp_eq (tgt := 36) K.1 K.2.1 dX7_firstOtherwise_30 (by decide) (fun h_7 => ?_) (fun h_7 => ?_)
      · have hd := hd.1 h_7
        obtain ⟨x4_8, ex4_8⟩ : ∃ y : Int32, y = x4 + (1 : Int32) := ⟨_, rfl⟩
        have hd := hd x4_8 ex4_8
        refine lv_iinc (v := x4_8) (lv' := [(4, .int x4_8), (0, .ref (ad 0)), (1, .ref (ad x1)), (2, .ref (ad x2)), (3, .ref (ad x3))]) K.1 K.2.1 dX7_firstOtherwise_36 hl (k := 4) rfl (by rw [ex4_8]; rfl) (by decide) rfl (fun ls hl => ?_)
        refine lv_goto (tgt := 3) K.1 K.2.1 dX7_firstOtherwise_39 (by decide) ?_
        exact ih x1 x2 x3 x4_8 g_5 _ _ _ hq_x1 hq_x2 hq_x3 hd hw (lv_sub hl [1, 2, 3, 4, 0] rfl)
      · have hd := hd.2 h_7
        refine lv_iload K.1 K.2.1 dX7_firstOtherwise_33 (lv_at hl 4 rfl) ?_
        exact rk_iret K hw hr hd dX7_firstOtherwise_35
set_option maxHeartbeats 4000000 in
set_option maxRecDepth 100000 in
theorem cc_X7_firstOtherwise (l : Launch) (D : va_G) (cy : Nat → ClassId) (nt : Nat) (ad : Nat → Nat) (A : Nat → Prop) (X : Nat → Nat)  (g0 : Sg) (Q : Int32 → Sg → Prop) (x1 : Nat) (x2 : Nat) (x3 : Nat) (hd : vv_X7_firstOtherwise nt x1 x2 x3 g0 Q) : Met l yX7_firstOtherwise (Cond.code yX7_firstOtherwise cX7_firstOtherwise 5 (some .int) :: TT) (rmD 5) (va_Pc [.ref (ad 0), .ref (ad x1), .ref (ad x2), .ref (ad x3)] (PreC (wsC cy nt ad) D cy A X g0)) (va_Qi Q (PostG (wsC cy nt ad) D A) A) 0 0 A := by
  unfold vv_X7_firstOtherwise at hd
  refine Met.ofW (cc := cX7_firstOtherwise) (maxL := 5) (ret := (some .int)) (by decide) rfl ?_
  intro p e s m args below meth c s₁ B hml hv
  obtain ⟨rfl, ⟨hP, hK0, hD⟩, KX⟩ := hv
  have K : Kx p s m _ meth c cX7_firstOtherwise 5 RX7 D cy := ⟨B.exec, B.bytes, hml, findClass_of_methodNamed B.named, fun w h => atoms_spec (ws := Cond.code yX7_firstOtherwise cX7_firstOtherwise 5 (some .int) :: TT) B.pre w (List.mem_cons_of_mem _ h), hK0, B.notSynchronized⟩
  have hw : Wd D A s.heap (wsC cy nt ad g0) s.heap [] := ⟨hP, hD, va_S.rf⟩
  have hr := B.returns
  have hl := lv_entry ([.ref (ad 0), .ref (ad x1), .ref (ad x2), .ref (ad x3)]) (n := 5) (Nat.le_of_ble_eq_true rfl)
  rw [lg_entry_eq]
  generalize (lg_sl ([.ref (ad 0), .ref (ad x1), .ref (ad x2), .ref (ad x3)]) ++ List.replicate (5 - (lg_sl ([.ref (ad 0), .ref (ad x1), .ref (ad x2), .ref (ad x3)])).length) Slot.unset).toArray = ls at hl ⊢
  have hl : lv_has ls 5 [(0, .ref (ad 0)), (1, .ref (ad x1)), (2, .ref (ad x2)), (3, .ref (ad x3))] := hl
  have hq_x1 := hd.1
  have hd := hd.2
  have hq_x2 := hd.1
  have hd := hd.2
  have hq_x3 := hd.1
  have hd := hd.2
  refine lv_iconst (v := (0 : Int32)) K.1 K.2.1 dX7_firstOtherwise_0 (by decide) ?_
  refine lv_topi (fun x4_1 ex4_1 => ?_)
  have hd := hd x4_1 ex4_1
  refine lv_istore (lv' := [(4, .int x4_1), (0, .ref (ad 0)), (1, .ref (ad x1)), (2, .ref (ad x2)), (3, .ref (ad x3))]) K.1 K.2.1 dX7_firstOtherwise_1 hl (by decide) rfl (fun ls hl => ?_)
  obtain ⟨n9, hd⟩ := hd
  exact bb_X7_firstOtherwise_3 K KX hr   n9 x1 x2 x3 x4_1 g0 _ _ _ hq_x1 hq_x2 hq_x3 hd hw (lv_sub hl [1, 2, 3, 4, 0] rfl)
theorem dX7_guessedBits_0 : decode cX7_guessedBits 0 = .ok (.iconst 0, 1) := by decide +kernel
theorem dX7_guessedBits_1 : decode cX7_guessedBits 1 = .ok (.istore 4, 2) := by decide +kernel
theorem dX7_guessedBits_3 : decode cX7_guessedBits 3 = .ok (.aload_n 0, 1) := by decide +kernel
theorem dX7_guessedBits_4 : decode cX7_guessedBits 4 = .ok (.getfield 25, 3) := by decide +kernel
theorem dX7_guessedBits_7 : decode cX7_guessedBits 7 = .ok (.aload_n 2, 1) := by decide +kernel
theorem dX7_guessedBits_8 : decode cX7_guessedBits 8 = .ok (.invokevirtual 349, 3) := by decide +kernel
theorem dX7_guessedBits_11 : decode cX7_guessedBits 11 = .ok (.getstatic 89, 3) := by decide +kernel
theorem dX7_guessedBits_14 : decode cX7_guessedBits 14 = .ok (.iload_n 3, 1) := by decide +kernel
theorem dX7_guessedBits_15 : decode cX7_guessedBits 15 = .ok (.iaload, 1) := by decide +kernel
theorem dX7_guessedBits_16 : decode cX7_guessedBits 16 = .ok (.istore 5, 2) := by decide +kernel
theorem dX7_guessedBits_18 : decode cX7_guessedBits 18 = .ok (.iload 5, 2) := by decide +kernel
theorem dX7_guessedBits_20 : decode cX7_guessedBits 20 = .ok (.getstatic 93, 3) := by decide +kernel
theorem dX7_guessedBits_23 : decode cX7_guessedBits 23 = .ok (.iload_n 3, 1) := by decide +kernel
theorem dX7_guessedBits_24 : decode cX7_guessedBits 24 = .ok (.iaload, 1) := by decide +kernel
theorem dX7_guessedBits_25 : decode cX7_guessedBits 25 = .ok (.if_icmp .gt 58, 3) := by decide +kernel
theorem dX7_guessedBits_28 : decode cX7_guessedBits 28 = .ok (.aload_n 0, 1) := by decide +kernel
theorem dX7_guessedBits_29 : decode cX7_guessedBits 29 = .ok (.getfield 25, 3) := by decide +kernel
theorem dX7_guessedBits_32 : decode cX7_guessedBits 32 = .ok (.iload_n 3, 1) := by decide +kernel
theorem dX7_guessedBits_33 : decode cX7_guessedBits 33 = .ok (.iload 5, 2) := by decide +kernel
theorem dX7_guessedBits_35 : decode cX7_guessedBits 35 = .ok (.invokevirtual 110, 3) := by decide +kernel
theorem dX7_guessedBits_38 : decode cX7_guessedBits 38 = .ok (.aload_n 0, 1) := by decide +kernel
theorem dX7_guessedBits_39 : decode cX7_guessedBits 39 = .ok (.aload_n 1, 1) := by decide +kernel
theorem dX7_guessedBits_40 : decode cX7_guessedBits 40 = .ok (.aload_n 0, 1) := by decide +kernel
theorem dX7_guessedBits_41 : decode cX7_guessedBits 41 = .ok (.getfield 25, 3) := by decide +kernel
theorem dX7_guessedBits_44 : decode cX7_guessedBits 44 = .ok (.aload_n 0, 1) := by decide +kernel
theorem dX7_guessedBits_45 : decode cX7_guessedBits 45 = .ok (.aload_n 0, 1) := by decide +kernel
theorem dX7_guessedBits_46 : decode cX7_guessedBits 46 = .ok (.getfield 10, 3) := by decide +kernel
theorem dX7_guessedBits_49 : decode cX7_guessedBits 49 = .ok (.getfield 133, 3) := by decide +kernel
theorem dX7_guessedBits_52 : decode cX7_guessedBits 52 = .ok (.invokevirtual 136, 3) := by decide +kernel
theorem dX7_guessedBits_55 : decode cX7_guessedBits 55 = .ok (.invokevirtual 251, 3) := by decide +kernel
theorem dX7_guessedBits_58 : decode cX7_guessedBits 58 = .ok (.iconst (-1), 1) := by decide +kernel
theorem dX7_guessedBits_59 : decode cX7_guessedBits 59 = .ok (.if_icmp .ne 18, 3) := by decide +kernel
theorem dX7_guessedBits_62 : decode cX7_guessedBits 62 = .ok (.iload 4, 2) := by decide +kernel
theorem dX7_guessedBits_64 : decode cX7_guessedBits 64 = .ok (.iconst 1, 1) := by decide +kernel
theorem dX7_guessedBits_65 : decode cX7_guessedBits 65 = .ok (.iload 5, 2) := by decide +kernel
theorem dX7_guessedBits_67 : decode cX7_guessedBits 67 = .ok (.getstatic 89, 3) := by decide +kernel
theorem dX7_guessedBits_70 : decode cX7_guessedBits 70 = .ok (.iload_n 3, 1) := by decide +kernel
theorem dX7_guessedBits_71 : decode cX7_guessedBits 71 = .ok (.iaload, 1) := by decide +kernel
theorem dX7_guessedBits_72 : decode cX7_guessedBits 72 = .ok (.isub, 1) := by decide +kernel
theorem dX7_guessedBits_73 : decode cX7_guessedBits 73 = .ok (.ishl, 1) := by decide +kernel
theorem dX7_guessedBits_74 : decode cX7_guessedBits 74 = .ok (.ior, 1) := by decide +kernel
theorem dX7_guessedBits_75 : decode cX7_guessedBits 75 = .ok (.istore 4, 2) := by decide +kernel
theorem dX7_guessedBits_77 : decode cX7_guessedBits 77 = .ok (.iinc 5 1, 3) := by decide +kernel
theorem dX7_guessedBits_80 : decode cX7_guessedBits 80 = .ok (.goto (-62), 3) := by decide +kernel
theorem dX7_guessedBits_83 : decode cX7_guessedBits 83 = .ok (.iload 4, 2) := by decide +kernel
theorem dX7_guessedBits_85 : decode cX7_guessedBits 85 = .ok (.ireturn, 1) := by decide +kernel
set_option maxHeartbeats 4000000 in
set_option maxRecDepth 100000 in
theorem bb_X7_guessedBits_77 {p : Program} {l : Launch} {e : Env} {s : State} {m : MethodId} {args : Array Value} {below : List Frame} {meth : Method} {c : Code} {D : va_G} {cy : Nat → ClassId} {nt : Nat} {ad : Nat → Nat} {A : Nat → Prop} {X : Nat → Nat} {Q : Int32 → Sg → Prop} (K : Kx p s m args meth c cX7_guessedBits 6 RX7 D cy) (KX : XC X A s s.heap) (hr : meth.sig.returnType = (some .int))  {rc18 : Nat → Int32 → Int32 → Int32 → Sg → Prop} (hrc18 : ∀ (x1 : Nat) (x3 : Int32) (x4 : Int32) (x5 : Int32) (u : Sg) (H : Heap) (locs : List Loc) (ls : Array Slot), isS x1 → rc18 x1 x3 x4 x5 u → Wd D A s.heap (wsC cy nt ad u) H locs → lv_has ls 6 [(0, .ref (ad 0)), (1, .ref (ad x1)), (3, .int x3), (4, .int x4), (5, .int x5)] → W p l e (rmD 6) s m args below meth c H locs 0 0 (MQ below (va_Qi Q (PostG (wsC cy nt ad) D A) A) args s 0 0 A) (F0 m 18 ls [])) (x1 : Nat) (x3 : Int32) (x4 : Int32) (x5 : Int32)  (g0 : Sg) (H : Heap) (locs : List Loc) (ls : Array Slot) (hq_x1 : isS x1) (hd : vv_X7_guessedBits_J77 nt rc18 x1 x3 x4 x5 g0 Q) (hw : Wd D A s.heap (wsC cy nt ad g0) H locs) (hl : lv_has ls 6 [(0, .ref (ad 0)), (1, .ref (ad x1)), (3, .int x3), (4, .int x4), (5, .int x5)]) : W p l e (rmD 6) s m args below meth c H locs 0 0 (MQ below (va_Qi Q (PostG (wsC cy nt ad) D A) A) args s 0 0 A) (F0 m 77 ls []) := by
  unfold vv_X7_guessedBits_J77 at hd
  obtain ⟨x5_13, ex5_13⟩ : ∃ y : Int32, y = x5 + (1 : Int32) := ⟨_, rfl⟩
  have hd := hd x5_13 ex5_13
  refine lv_iinc (v := x5_13) (lv' := [(5, .int x5_13), (0, .ref (ad 0)), (1, .ref (ad x1)), (3, .int x3), (4, .int x4)]) K.1 K.2.1 dX7_guessedBits_77 hl (k := 4) rfl (by rw [ex5_13]; rfl) (by decide) rfl (fun ls hl => ?_)
  refine lv_goto (tgt := 18) K.1 K.2.1 dX7_guessedBits_80 (by decide) ?_
  exact hrc18 x1 x3 x4 x5_13 g0 _ _ _ hq_x1 hd hw (lv_sub hl [1, 2, 3, 4, 0] rfl)
set_option maxHeartbeats 4000000 in
set_option maxRecDepth 100000 in
theorem bb_X7_guessedBits_18 {p : Program} {l : Launch} {e : Env} {s : State} {m : MethodId} {args : Array Value} {below : List Frame} {meth : Method} {c : Code} {D : va_G} {cy : Nat → ClassId} {nt : Nat} {ad : Nat → Nat} {A : Nat → Prop} {X : Nat → Nat} {Q : Int32 → Sg → Prop} (K : Kx p s m args meth c cX7_guessedBits 6 RX7 D cy) (KX : XC X A s s.heap) (hr : meth.sig.returnType = (some .int))  : ∀ (n : Nat) (x1 : Nat) (x3 : Int32) (x4 : Int32) (x5 : Int32)  (g0 : Sg) (H : Heap) (locs : List Loc) (ls : Array Slot), isS x1 → vv_X7_guessedBits_L18 nt Q n x1 x3 x4 x5 g0 → Wd D A s.heap (wsC cy nt ad g0) H locs → lv_has ls 6 [(0, .ref (ad 0)), (1, .ref (ad x1)), (3, .int x3), (4, .int x4), (5, .int x5)] → W p l e (rmD 6) s m args below meth c H locs 0 0 (MQ below (va_Qi Q (PostG (wsC cy nt ad) D A) A) args s 0 0 A) (F0 m 18 ls []) := by
  intro n
  induction n with
  | zero => intro _ _ _ _ _ _ _ _ _ hd; exact hd.elim
  | succ n ih =>
    intro x1 x3 x4 x5 g0 H locs ls hq_x1 hd hw hl
    unfold vv_X7_guessedBits_L18 at hd
    refine lv_iload K.1 K.2.1 dX7_guessedBits_18 (lv_at hl 4 rfl) ?_
    refine rc_gets KX.2.1 K hw ks_X7_93 dX7_guessedBits_20 ?_
    refine lv_iload_n K.1 K.2.1 dX7_guessedBits_23 rfl (lv_at hl 2 rfl) ?_
    have hb := hd.1
    have hd := hd.2
    refine rc_ti (f := tG) KX.2.2.2.2.1 K hw hb dX7_guessedBits_24 ?_
    refine lv_icmp_gt (tgt := 83) K.1 K.2.1 dX7_guessedBits_25 (by decide) (fun h_5 => ?_) (fun h_5 => ?_)
    · have hd := hd.1 h_5
      refine lv_iload K.1 K.2.1 dX7_guessedBits_83 (lv_at hl 3 rfl) ?_
      exact rk_iret K hw hr hd dX7_guessedBits_85
    · have hd := hd.2 h_5
      refine lv_aload_n K.1 K.2.1 dX7_guessedBits_28 rfl (lv_at hl 0 rfl) ?_
      refine rc_get layX7 (ci := 7) rfl 4 (by decide) (v := .ref (ad 7)) K hw (wc_O cy nt ad _) kf_X7_25 rfl dX7_guessedBits_29 ?_
      refine lv_iload_n K.1 K.2.1 dX7_guessedBits_32 rfl (lv_at hl 2 rfl) ?_
      refine lv_iload K.1 K.2.1 dX7_guessedBits_33 (lv_at hl 4 rfl) ?_
      refine rkc_vv (As := [.int x3, .int x5]) (rest := []) K KX hw (cc_X1_put l D cy nt ad A X g0 _ 7 x3 x5 hd) lk_X7_110 (ci := 1) rfl (wc_P cy nt ad _ (Or.inl rfl)) ⟨Nat.le_of_ble_eq_true rfl, Nat.le_of_ble_eq_true rfl⟩ ⟨Nat.zero_le _, Nat.zero_le _⟩ rfl hl.1 (Nat.le_of_ble_eq_true rfl) rfl dX7_guessedBits_35 (fun g_6 H locs hd hw => ?_)
      refine lv_aload_n K.1 K.2.1 dX7_guessedBits_38 rfl (lv_at hl 0 rfl) ?_
      refine lv_aload_n K.1 K.2.1 dX7_guessedBits_39 rfl (lv_at hl 1 rfl) ?_
      refine lv_aload_n K.1 K.2.1 dX7_guessedBits_40 rfl (lv_at hl 0 rfl) ?_
      refine rc_get layX7 (ci := 7) rfl 4 (by decide) (v := .ref (ad 7)) K hw (wc_O cy nt ad _) kf_X7_25 rfl dX7_guessedBits_41 ?_
      refine lv_aload_n K.1 K.2.1 dX7_guessedBits_44 rfl (lv_at hl 0 rfl) ?_
      refine lv_aload_n K.1 K.2.1 dX7_guessedBits_45 rfl (lv_at hl 0 rfl) ?_
      refine rc_get layX7 (ci := 7) rfl 0 (by decide) (v := .ref (ad 1)) K hw (wc_O cy nt ad _) kf_X7_10 rfl dX7_guessedBits_46 ?_
      refine rc_get layX0 (ci := 0) rfl 1 (by decide) (v := .int (g_6 1 1)) K hw (wc_B cy nt ad _ ⟨by decide, by decide⟩) kf_X7_133 rfl dX7_guessedBits_49 ?_
      refine rkc_vt (As := [.int (g_6 1 1)]) (rest := [.ref (ad 7), .ref (ad x1), .ref (ad 0)]) K KX hw (cc_X7_textOf l D cy nt ad A X g_6 _ (g_6 1 1) hd) lk_X7_136 (ci := 7) rfl (wc_O cy nt ad _) ⟨Nat.le_of_ble_eq_true rfl, Nat.le_of_ble_eq_true rfl⟩ ⟨Nat.zero_le _, Nat.zero_le _⟩ rfl hl.1 (Nat.le_of_ble_eq_true rfl) rfl dX7_guessedBits_52 (fun r_9 g_8 H locs hd hw => ?_)
      have hq_r_9 := hd.1
      have hd := hd.2
      refine rkc_vi (As := [.ref (ad x1), .ref (ad 7), .ref (ad r_9)]) (rest := []) K KX hw (cc_X7_firstOtherwise l D cy nt ad A X g_8 _ x1 7 r_9 hd) lk_X7_251 (ci := 7) rfl (wc_O cy nt ad _) ⟨Nat.le_of_ble_eq_true rfl, Nat.le_of_ble_eq_true rfl⟩ ⟨Nat.zero_le _, Nat.zero_le _⟩ rfl hl.1 (Nat.le_of_ble_eq_true rfl) rfl dX7_guessedBits_55 (fun r_11 g_10 H locs hd hw => ?_)
      refine lv_iconst (v := (-1 : Int32)) K.1 K.2.1 dX7_guessedBits_58 (by decide) ?_
      refine lv_icmp_ne (tgt := 77) K.1 K.2.1 dX7_guessedBits_59 (by decide) (fun h_12 => ?_) (fun h_12 => ?_)
      · have hd := hd.1 h_12
        exact bb_X7_guessedBits_77 K KX hr  ih x1 x3 x4 x5 g_10 _ _ _ hq_x1 hd hw (lv_sub hl [0, 1, 2, 3, 4] rfl)
      · have hd := hd.2 h_12
        refine lv_iload K.1 K.2.1 dX7_guessedBits_62 (lv_at hl 3 rfl) ?_
        refine lv_iconst (v := (1 : Int32)) K.1 K.2.1 dX7_guessedBits_64 (by decide) ?_
        refine lv_iload K.1 K.2.1 dX7_guessedBits_65 (lv_at hl 4 rfl) ?_
        refine rc_gets KX.1 K hw ks_X7_89 dX7_guessedBits_67 ?_
        refine lv_iload_n K.1 K.2.1 dX7_guessedBits_70 rfl (lv_at hl 2 rfl) ?_
        have hb := hd.1
        have hd := hd.2
        refine rc_ti (f := tL) KX.2.2.2.1 K hw hb dX7_guessedBits_71 ?_
        refine lv_isub K.1 K.2.1 dX7_guessedBits_72 ?_
        refine lv_ishl K.1 K.2.1 dX7_guessedBits_73 ?_
        refine lv_ior K.1 K.2.1 dX7_guessedBits_74 ?_
        refine lv_topi (fun x4_14 ex4_14 => ?_)
        have hd := hd x4_14 ex4_14
        refine lv_istore (lv' := [(4, .int x4_14), (0, .ref (ad 0)), (1, .ref (ad x1)), (3, .int x3), (5, .int x5)]) K.1 K.2.1 dX7_guessedBits_75 hl (by decide) rfl (fun ls hl => ?_)
        exact bb_X7_guessedBits_77 K KX hr  ih x1 x3 x4_14 x5 g_10 _ _ _ hq_x1 hd hw (lv_sub hl [1, 2, 3, 0, 4] rfl)
set_option maxHeartbeats 4000000 in
set_option maxRecDepth 100000 in
theorem cc_X7_guessedBits (l : Launch) (D : va_G) (cy : Nat → ClassId) (nt : Nat) (ad : Nat → Nat) (A : Nat → Prop) (X : Nat → Nat)  (g0 : Sg) (Q : Int32 → Sg → Prop) (x1 : Nat) (x2 : Nat) (x3 : Int32) (hd : vv_X7_guessedBits nt x1 x2 x3 g0 Q) : Met l yX7_guessedBits (Cond.code yX7_guessedBits cX7_guessedBits 6 (some .int) :: TT) (rmD 6) (va_Pc [.ref (ad 0), .ref (ad x1), .ref (ad x2), .int x3] (PreC (wsC cy nt ad) D cy A X g0)) (va_Qi Q (PostG (wsC cy nt ad) D A) A) 0 0 A := by
  unfold vv_X7_guessedBits at hd
  refine Met.ofW (cc := cX7_guessedBits) (maxL := 6) (ret := (some .int)) (by decide) rfl ?_
  intro p e s m args below meth c s₁ B hml hv
  obtain ⟨rfl, ⟨hP, hK0, hD⟩, KX⟩ := hv
  have K : Kx p s m _ meth c cX7_guessedBits 6 RX7 D cy := ⟨B.exec, B.bytes, hml, findClass_of_methodNamed B.named, fun w h => atoms_spec (ws := Cond.code yX7_guessedBits cX7_guessedBits 6 (some .int) :: TT) B.pre w (List.mem_cons_of_mem _ h), hK0, B.notSynchronized⟩
  have hw : Wd D A s.heap (wsC cy nt ad g0) s.heap [] := ⟨hP, hD, va_S.rf⟩
  have hr := B.returns
  have hl := lv_entry ([.ref (ad 0), .ref (ad x1), .ref (ad x2), .int x3]) (n := 6) (Nat.le_of_ble_eq_true rfl)
  rw [lg_entry_eq]
  generalize (lg_sl ([.ref (ad 0), .ref (ad x1), .ref (ad x2), .int x3]) ++ List.replicate (6 - (lg_sl ([.ref (ad 0), .ref (ad x1), .ref (ad x2), .int x3])).length) Slot.unset).toArray = ls at hl ⊢
  have hl : lv_has ls 6 [(0, .ref (ad 0)), (1, .ref (ad x1)), (2, .ref (ad x2)), (3, .int x3)] := hl
  have hq_x1 := hd.1
  have hd := hd.2
  have hq_x2 := hd.1
  have hd := hd.2
  refine lv_iconst (v := (0 : Int32)) K.1 K.2.1 dX7_guessedBits_0 (by decide) ?_
  refine lv_topi (fun x4_1 ex4_1 => ?_)
  have hd := hd x4_1 ex4_1
  refine lv_istore (lv' := [(4, .int x4_1), (0, .ref (ad 0)), (1, .ref (ad x1)), (2, .ref (ad x2)), (3, .int x3)]) K.1 K.2.1 dX7_guessedBits_1 hl (by decide) rfl (fun ls hl => ?_)
  refine lv_aload_n K.1 K.2.1 dX7_guessedBits_3 rfl (lv_at hl 1 rfl) ?_
  refine rc_get layX7 (ci := 7) rfl 4 (by decide) (v := .ref (ad 7)) K hw (wc_O cy nt ad _) kf_X7_25 rfl dX7_guessedBits_4 ?_
  refine lv_aload_n K.1 K.2.1 dX7_guessedBits_7 rfl (lv_at hl 3 rfl) ?_
  refine rkc_vv (As := [.ref (ad x2)]) (rest := []) K KX hw (cc_X1_become l D cy nt ad A X g0 _ 7 x2 hd) lk_X7_349 (ci := 1) rfl (wc_P cy nt ad _ (Or.inl rfl)) ⟨Nat.le_of_ble_eq_true rfl, Nat.le_of_ble_eq_true rfl⟩ ⟨Nat.zero_le _, Nat.zero_le _⟩ rfl hl.1 (Nat.le_of_ble_eq_true rfl) rfl dX7_guessedBits_8 (fun g_2 H locs hd hw => ?_)
  refine rc_gets KX.1 K hw ks_X7_89 dX7_guessedBits_11 ?_
  refine lv_iload_n K.1 K.2.1 dX7_guessedBits_14 rfl (lv_at hl 4 rfl) ?_
  have hb := hd.1
  have hd := hd.2
  refine rc_ti (f := tL) KX.2.2.2.1 K hw hb dX7_guessedBits_15 ?_
  refine lv_topi (fun x5_4 ex5_4 => ?_)
  have hd := hd x5_4 ex5_4
  refine lv_istore (lv' := [(5, .int x5_4), (4, .int x4_1), (0, .ref (ad 0)), (1, .ref (ad x1)), (2, .ref (ad x2)), (3, .int x3)]) K.1 K.2.1 dX7_guessedBits_16 hl (by decide) rfl (fun ls hl => ?_)
  obtain ⟨n9, hd⟩ := hd
  exact bb_X7_guessedBits_18 K KX hr   n9 x1 x3 x4_1 x5_4 g_2 _ _ _ hq_x1 hd hw (lv_sub hl [2, 3, 5, 1, 0] rfl)
theorem dX7_guessedCrumpled_0 : decode cX7_guessedCrumpled 0 = .ok (.iconst 0, 1) := by decide +kernel
theorem dX7_guessedCrumpled_1 : decode cX7_guessedCrumpled 1 = .ok (.istore 4, 2) := by decide +kernel
theorem dX7_guessedCrumpled_3 : decode cX7_guessedCrumpled 3 = .ok (.aload_n 0, 1) := by decide +kernel
theorem dX7_guessedCrumpled_4 : decode cX7_guessedCrumpled 4 = .ok (.getfield 25, 3) := by decide +kernel
theorem dX7_guessedCrumpled_7 : decode cX7_guessedCrumpled 7 = .ok (.aload_n 2, 1) := by decide +kernel
theorem dX7_guessedCrumpled_8 : decode cX7_guessedCrumpled 8 = .ok (.invokevirtual 349, 3) := by decide +kernel
theorem dX7_guessedCrumpled_11 : decode cX7_guessedCrumpled 11 = .ok (.getstatic 89, 3) := by decide +kernel
theorem dX7_guessedCrumpled_14 : decode cX7_guessedCrumpled 14 = .ok (.iconst 5, 1) := by decide +kernel
theorem dX7_guessedCrumpled_15 : decode cX7_guessedCrumpled 15 = .ok (.iaload, 1) := by decide +kernel
theorem dX7_guessedCrumpled_16 : decode cX7_guessedCrumpled 16 = .ok (.istore 5, 2) := by decide +kernel
theorem dX7_guessedCrumpled_18 : decode cX7_guessedCrumpled 18 = .ok (.iload 5, 2) := by decide +kernel
theorem dX7_guessedCrumpled_20 : decode cX7_guessedCrumpled 20 = .ok (.getstatic 93, 3) := by decide +kernel
theorem dX7_guessedCrumpled_23 : decode cX7_guessedCrumpled 23 = .ok (.iconst 5, 1) := by decide +kernel
theorem dX7_guessedCrumpled_24 : decode cX7_guessedCrumpled 24 = .ok (.iaload, 1) := by decide +kernel
theorem dX7_guessedCrumpled_25 : decode cX7_guessedCrumpled 25 = .ok (.if_icmp .gt 52, 3) := by decide +kernel
theorem dX7_guessedCrumpled_28 : decode cX7_guessedCrumpled 28 = .ok (.aload_n 0, 1) := by decide +kernel
theorem dX7_guessedCrumpled_29 : decode cX7_guessedCrumpled 29 = .ok (.getfield 25, 3) := by decide +kernel
theorem dX7_guessedCrumpled_32 : decode cX7_guessedCrumpled 32 = .ok (.iload 5, 2) := by decide +kernel
theorem dX7_guessedCrumpled_34 : decode cX7_guessedCrumpled 34 = .ok (.putfield 201, 3) := by decide +kernel
theorem dX7_guessedCrumpled_37 : decode cX7_guessedCrumpled 37 = .ok (.aload_n 0, 1) := by decide +kernel
theorem dX7_guessedCrumpled_38 : decode cX7_guessedCrumpled 38 = .ok (.aload_n 1, 1) := by decide +kernel
theorem dX7_guessedCrumpled_39 : decode cX7_guessedCrumpled 39 = .ok (.aload_n 0, 1) := by decide +kernel
theorem dX7_guessedCrumpled_40 : decode cX7_guessedCrumpled 40 = .ok (.getfield 25, 3) := by decide +kernel
theorem dX7_guessedCrumpled_43 : decode cX7_guessedCrumpled 43 = .ok (.aload_n 0, 1) := by decide +kernel
theorem dX7_guessedCrumpled_44 : decode cX7_guessedCrumpled 44 = .ok (.aload_n 0, 1) := by decide +kernel
theorem dX7_guessedCrumpled_45 : decode cX7_guessedCrumpled 45 = .ok (.getfield 10, 3) := by decide +kernel
theorem dX7_guessedCrumpled_48 : decode cX7_guessedCrumpled 48 = .ok (.getfield 133, 3) := by decide +kernel
theorem dX7_guessedCrumpled_51 : decode cX7_guessedCrumpled 51 = .ok (.invokevirtual 136, 3) := by decide +kernel
theorem dX7_guessedCrumpled_54 : decode cX7_guessedCrumpled 54 = .ok (.invokevirtual 251, 3) := by decide +kernel
theorem dX7_guessedCrumpled_57 : decode cX7_guessedCrumpled 57 = .ok (.iconst (-1), 1) := by decide +kernel
theorem dX7_guessedCrumpled_58 : decode cX7_guessedCrumpled 58 = .ok (.if_icmp .ne 13, 3) := by decide +kernel
theorem dX7_guessedCrumpled_61 : decode cX7_guessedCrumpled 61 = .ok (.iload_n 3, 1) := by decide +kernel
theorem dX7_guessedCrumpled_62 : decode cX7_guessedCrumpled 62 = .ok (.ifCond .eq 6, 3) := by decide +kernel
theorem dX7_guessedCrumpled_65 : decode cX7_guessedCrumpled 65 = .ok (.iload 5, 2) := by decide +kernel
theorem dX7_guessedCrumpled_67 : decode cX7_guessedCrumpled 67 = .ok (.ireturn, 1) := by decide +kernel
theorem dX7_guessedCrumpled_68 : decode cX7_guessedCrumpled 68 = .ok (.iinc 4 1, 3) := by decide +kernel
theorem dX7_guessedCrumpled_71 : decode cX7_guessedCrumpled 71 = .ok (.iinc 5 1, 3) := by decide +kernel
theorem dX7_guessedCrumpled_74 : decode cX7_guessedCrumpled 74 = .ok (.goto (-56), 3) := by decide +kernel
theorem dX7_guessedCrumpled_77 : decode cX7_guessedCrumpled 77 = .ok (.iload_n 3, 1) := by decide +kernel
theorem dX7_guessedCrumpled_78 : decode cX7_guessedCrumpled 78 = .ok (.ifCond .eq 7, 3) := by decide +kernel
theorem dX7_guessedCrumpled_81 : decode cX7_guessedCrumpled 81 = .ok (.iconst (-1), 1) := by decide +kernel
theorem dX7_guessedCrumpled_82 : decode cX7_guessedCrumpled 82 = .ok (.goto 5, 3) := by decide +kernel
theorem dX7_guessedCrumpled_85 : decode cX7_guessedCrumpled 85 = .ok (.iload 4, 2) := by decide +kernel
theorem dX7_guessedCrumpled_87 : decode cX7_guessedCrumpled 87 = .ok (.ireturn, 1) := by decide +kernel
set_option maxHeartbeats 4000000 in
set_option maxRecDepth 100000 in
theorem bb_X7_guessedCrumpled_71 {p : Program} {l : Launch} {e : Env} {s : State} {m : MethodId} {args : Array Value} {below : List Frame} {meth : Method} {c : Code} {D : va_G} {cy : Nat → ClassId} {nt : Nat} {ad : Nat → Nat} {A : Nat → Prop} {X : Nat → Nat} {Q : Int32 → Sg → Prop} (K : Kx p s m args meth c cX7_guessedCrumpled 6 RX7 D cy) (KX : XC X A s s.heap) (hr : meth.sig.returnType = (some .int))  {rc18 : Nat → Int32 → Int32 → Int32 → Sg → Prop} (hrc18 : ∀ (x1 : Nat) (x3 : Int32) (x4 : Int32) (x5 : Int32) (u : Sg) (H : Heap) (locs : List Loc) (ls : Array Slot), isS x1 → rc18 x1 x3 x4 x5 u → Wd D A s.heap (wsC cy nt ad u) H locs → lv_has ls 6 [(0, .ref (ad 0)), (1, .ref (ad x1)), (3, .int x3), (4, .int x4), (5, .int x5)] → W p l e (rmD 6) s m args below meth c H locs 0 0 (MQ below (va_Qi Q (PostG (wsC cy nt ad) D A) A) args s 0 0 A) (F0 m 18 ls [])) (x1 : Nat) (x3 : Int32) (x4 : Int32) (x5 : Int32)  (g0 : Sg) (H : Heap) (locs : List Loc) (ls : Array Slot) (hq_x1 : isS x1) (hd : vv_X7_guessedCrumpled_J71 nt rc18 x1 x3 x4 x5 g0 Q) (hw : Wd D A s.heap (wsC cy nt ad g0) H locs) (hl : lv_has ls 6 [(0, .ref (ad 0)), (1, .ref (ad x1)), (3, .int x3), (4, .int x4), (5, .int x5)]) : W p l e (rmD 6) s m args below meth c H locs 0 0 (MQ below (va_Qi Q (PostG (wsC cy nt ad) D A) A) args s 0 0 A) (F0 m 71 ls []) := by
  unfold vv_X7_guessedCrumpled_J71 at hd
  obtain ⟨x5_13, ex5_13⟩ : ∃ y : Int32, y = x5 + (1 : Int32) := ⟨_, rfl⟩
  have hd := hd x5_13 ex5_13
  refine lv_iinc (v := x5_13) (lv' := [(5, .int x5_13), (0, .ref (ad 0)), (1, .ref (ad x1)), (3, .int x3), (4, .int x4)]) K.1 K.2.1 dX7_guessedCrumpled_71 hl (k := 4) rfl (by rw [ex5_13]; rfl) (by decide) rfl (fun ls hl => ?_)
  refine lv_goto (tgt := 18) K.1 K.2.1 dX7_guessedCrumpled_74 (by decide) ?_
  exact hrc18 x1 x3 x4 x5_13 g0 _ _ _ hq_x1 hd hw (lv_sub hl [1, 2, 3, 4, 0] rfl)
set_option maxHeartbeats 4000000 in
set_option maxRecDepth 100000 in
theorem bb_X7_guessedCrumpled_18 {p : Program} {l : Launch} {e : Env} {s : State} {m : MethodId} {args : Array Value} {below : List Frame} {meth : Method} {c : Code} {D : va_G} {cy : Nat → ClassId} {nt : Nat} {ad : Nat → Nat} {A : Nat → Prop} {X : Nat → Nat} {Q : Int32 → Sg → Prop} (K : Kx p s m args meth c cX7_guessedCrumpled 6 RX7 D cy) (KX : XC X A s s.heap) (hr : meth.sig.returnType = (some .int))  : ∀ (n : Nat) (x1 : Nat) (x3 : Int32) (x4 : Int32) (x5 : Int32)  (g0 : Sg) (H : Heap) (locs : List Loc) (ls : Array Slot), isS x1 → vv_X7_guessedCrumpled_L18 nt Q n x1 x3 x4 x5 g0 → Wd D A s.heap (wsC cy nt ad g0) H locs → lv_has ls 6 [(0, .ref (ad 0)), (1, .ref (ad x1)), (3, .int x3), (4, .int x4), (5, .int x5)] → W p l e (rmD 6) s m args below meth c H locs 0 0 (MQ below (va_Qi Q (PostG (wsC cy nt ad) D A) A) args s 0 0 A) (F0 m 18 ls []) := by
  intro n
  induction n with
  | zero => intro _ _ _ _ _ _ _ _ _ hd; exact hd.elim
  | succ n ih =>
    intro x1 x3 x4 x5 g0 H locs ls hq_x1 hd hw hl
    unfold vv_X7_guessedCrumpled_L18 at hd
    refine lv_iload K.1 K.2.1 dX7_guessedCrumpled_18 (lv_at hl 4 rfl) ?_
    refine rc_gets KX.2.1 K hw ks_X7_93 dX7_guessedCrumpled_20 ?_
    refine lv_iconst (v := (5 : Int32)) K.1 K.2.1 dX7_guessedCrumpled_23 (by decide) ?_
    have hb := hd.1
    have hd := hd.2
    refine rc_ti (f := tG) KX.2.2.2.2.1 K hw hb dX7_guessedCrumpled_24 ?_
    refine lv_icmp_gt (tgt := 77) K.1 K.2.1 dX7_guessedCrumpled_25 (by decide) (fun h_5 => ?_) (fun h_5 => ?_)
    · have hd := hd.1 h_5
      refine lv_iload_n K.1 K.2.1 dX7_guessedCrumpled_77 rfl (lv_at hl 2 rfl) ?_
      refine lv_if_eq (tgt := 85) K.1 K.2.1 dX7_guessedCrumpled_78 (by decide) (fun h_6 => ?_) (fun h_6 => ?_)
      · have hd := hd.1 h_6
        refine lv_iload K.1 K.2.1 dX7_guessedCrumpled_85 (lv_at hl 3 rfl) ?_
        exact rk_iret K hw hr hd dX7_guessedCrumpled_87
      · have hd := hd.2 h_6
        refine lv_iconst (v := (-1 : Int32)) K.1 K.2.1 dX7_guessedCrumpled_81 (by decide) ?_
        refine lv_goto (tgt := 87) K.1 K.2.1 dX7_guessedCrumpled_82 (by decide) ?_
        exact rk_iret K hw hr hd dX7_guessedCrumpled_87
    · have hd := hd.2 h_5
      refine lv_aload_n K.1 K.2.1 dX7_guessedCrumpled_28 rfl (lv_at hl 0 rfl) ?_
      refine rc_get layX7 (ci := 7) rfl 4 (by decide) (v := .ref (ad 7)) K hw (wc_O cy nt ad _) kf_X7_25 rfl dX7_guessedCrumpled_29 ?_
      refine lv_iload K.1 K.2.1 dX7_guessedCrumpled_32 (lv_at hl 4 rfl) ?_
      refine rc_put layX1 (ci := 1) rfl tyX1_ok nmX1 4 (by decide) K hw (wc_P cy nt ad _ (Or.inl rfl)) kf_X7_201 rfl rfl rfl rfl (Nat.le_of_ble_eq_true rfl) (wp_P_4 cy nt ad _ _ (Or.inl rfl)) dX7_guessedCrumpled_34 (fun g_7 eg_7 H locs hw => ?_)
      have hd := hd g_7 eg_7
      refine lv_aload_n K.1 K.2.1 dX7_guessedCrumpled_37 rfl (lv_at hl 0 rfl) ?_
      refine lv_aload_n K.1 K.2.1 dX7_guessedCrumpled_38 rfl (lv_at hl 1 rfl) ?_
      refine lv_aload_n K.1 K.2.1 dX7_guessedCrumpled_39 rfl (lv_at hl 0 rfl) ?_
      refine rc_get layX7 (ci := 7) rfl 4 (by decide) (v := .ref (ad 7)) K hw (wc_O cy nt ad _) kf_X7_25 rfl dX7_guessedCrumpled_40 ?_
      refine lv_aload_n K.1 K.2.1 dX7_guessedCrumpled_43 rfl (lv_at hl 0 rfl) ?_
      refine lv_aload_n K.1 K.2.1 dX7_guessedCrumpled_44 rfl (lv_at hl 0 rfl) ?_
      refine rc_get layX7 (ci := 7) rfl 0 (by decide) (v := .ref (ad 1)) K hw (wc_O cy nt ad _) kf_X7_10 rfl dX7_guessedCrumpled_45 ?_
      refine rc_get layX0 (ci := 0) rfl 1 (by decide) (v := .int (g_7 1 1)) K hw (wc_B cy nt ad _ ⟨by decide, by decide⟩) kf_X7_133 rfl dX7_guessedCrumpled_48 ?_
      refine rkc_vt (As := [.int (g_7 1 1)]) (rest := [.ref (ad 7), .ref (ad x1), .ref (ad 0)]) K KX hw (cc_X7_textOf l D cy nt ad A X g_7 _ (g_7 1 1) hd) lk_X7_136 (ci := 7) rfl (wc_O cy nt ad _) ⟨Nat.le_of_ble_eq_true rfl, Nat.le_of_ble_eq_true rfl⟩ ⟨Nat.zero_le _, Nat.zero_le _⟩ rfl hl.1 (Nat.le_of_ble_eq_true rfl) rfl dX7_guessedCrumpled_51 (fun r_9 g_8 H locs hd hw => ?_)
      have hq_r_9 := hd.1
      have hd := hd.2
      refine rkc_vi (As := [.ref (ad x1), .ref (ad 7), .ref (ad r_9)]) (rest := []) K KX hw (cc_X7_firstOtherwise l D cy nt ad A X g_8 _ x1 7 r_9 hd) lk_X7_251 (ci := 7) rfl (wc_O cy nt ad _) ⟨Nat.le_of_ble_eq_true rfl, Nat.le_of_ble_eq_true rfl⟩ ⟨Nat.zero_le _, Nat.zero_le _⟩ rfl hl.1 (Nat.le_of_ble_eq_true rfl) rfl dX7_guessedCrumpled_54 (fun r_11 g_10 H locs hd hw => ?_)
      refine lv_iconst (v := (-1 : Int32)) K.1 K.2.1 dX7_guessedCrumpled_57 (by decide) ?_
      refine lv_icmp_ne (tgt := 71) K.1 K.2.1 dX7_guessedCrumpled_58 (by decide) (fun h_12 => ?_) (fun h_12 => ?_)
      · have hd := hd.1 h_12
        exact bb_X7_guessedCrumpled_71 K KX hr  ih x1 x3 x4 x5 g_10 _ _ _ hq_x1 hd hw (lv_sub hl [0, 1, 2, 3, 4] rfl)
      · have hd := hd.2 h_12
        refine lv_iload_n K.1 K.2.1 dX7_guessedCrumpled_61 rfl (lv_at hl 2 rfl) ?_
        refine lv_if_eq (tgt := 68) K.1 K.2.1 dX7_guessedCrumpled_62 (by decide) (fun h_14 => ?_) (fun h_14 => ?_)
        · have hd := hd.1 h_14
          obtain ⟨x4_15, ex4_15⟩ : ∃ y : Int32, y = x4 + (1 : Int32) := ⟨_, rfl⟩
          have hd := hd x4_15 ex4_15
          refine lv_iinc (v := x4_15) (lv' := [(4, .int x4_15), (0, .ref (ad 0)), (1, .ref (ad x1)), (3, .int x3), (5, .int x5)]) K.1 K.2.1 dX7_guessedCrumpled_68 hl (k := 3) rfl (by rw [ex4_15]; rfl) (by decide) rfl (fun ls hl => ?_)
          exact bb_X7_guessedCrumpled_71 K KX hr  ih x1 x3 x4_15 x5 g_10 _ _ _ hq_x1 hd hw (lv_sub hl [1, 2, 3, 0, 4] rfl)
        · have hd := hd.2 h_14
          refine lv_iload K.1 K.2.1 dX7_guessedCrumpled_65 (lv_at hl 4 rfl) ?_
          exact rk_iret K hw hr hd dX7_guessedCrumpled_67
set_option maxHeartbeats 4000000 in
set_option maxRecDepth 100000 in
theorem cc_X7_guessedCrumpled (l : Launch) (D : va_G) (cy : Nat → ClassId) (nt : Nat) (ad : Nat → Nat) (A : Nat → Prop) (X : Nat → Nat)  (g0 : Sg) (Q : Int32 → Sg → Prop) (x1 : Nat) (x2 : Nat) (x3 : Int32) (hd : vv_X7_guessedCrumpled nt x1 x2 x3 g0 Q) : Met l yX7_guessedCrumpled (Cond.code yX7_guessedCrumpled cX7_guessedCrumpled 6 (some .int) :: TT) (rmD 6) (va_Pc [.ref (ad 0), .ref (ad x1), .ref (ad x2), .int x3] (PreC (wsC cy nt ad) D cy A X g0)) (va_Qi Q (PostG (wsC cy nt ad) D A) A) 0 0 A := by
  unfold vv_X7_guessedCrumpled at hd
  refine Met.ofW (cc := cX7_guessedCrumpled) (maxL := 6) (ret := (some .int)) (by decide) rfl ?_
  intro p e s m args below meth c s₁ B hml hv
  obtain ⟨rfl, ⟨hP, hK0, hD⟩, KX⟩ := hv
  have K : Kx p s m _ meth c cX7_guessedCrumpled 6 RX7 D cy := ⟨B.exec, B.bytes, hml, findClass_of_methodNamed B.named, fun w h => atoms_spec (ws := Cond.code yX7_guessedCrumpled cX7_guessedCrumpled 6 (some .int) :: TT) B.pre w (List.mem_cons_of_mem _ h), hK0, B.notSynchronized⟩
  have hw : Wd D A s.heap (wsC cy nt ad g0) s.heap [] := ⟨hP, hD, va_S.rf⟩
  have hr := B.returns
  have hl := lv_entry ([.ref (ad 0), .ref (ad x1), .ref (ad x2), .int x3]) (n := 6) (Nat.le_of_ble_eq_true rfl)
  rw [lg_entry_eq]
  generalize (lg_sl ([.ref (ad 0), .ref (ad x1), .ref (ad x2), .int x3]) ++ List.replicate (6 - (lg_sl ([.ref (ad 0), .ref (ad x1), .ref (ad x2), .int x3])).length) Slot.unset).toArray = ls at hl ⊢
  have hl : lv_has ls 6 [(0, .ref (ad 0)), (1, .ref (ad x1)), (2, .ref (ad x2)), (3, .int x3)] := hl
  have hq_x1 := hd.1
  have hd := hd.2
  have hq_x2 := hd.1
  have hd := hd.2
  refine lv_iconst (v := (0 : Int32)) K.1 K.2.1 dX7_guessedCrumpled_0 (by decide) ?_
  refine lv_topi (fun x4_1 ex4_1 => ?_)
  have hd := hd x4_1 ex4_1
  refine lv_istore (lv' := [(4, .int x4_1), (0, .ref (ad 0)), (1, .ref (ad x1)), (2, .ref (ad x2)), (3, .int x3)]) K.1 K.2.1 dX7_guessedCrumpled_1 hl (by decide) rfl (fun ls hl => ?_)
  refine lv_aload_n K.1 K.2.1 dX7_guessedCrumpled_3 rfl (lv_at hl 1 rfl) ?_
  refine rc_get layX7 (ci := 7) rfl 4 (by decide) (v := .ref (ad 7)) K hw (wc_O cy nt ad _) kf_X7_25 rfl dX7_guessedCrumpled_4 ?_
  refine lv_aload_n K.1 K.2.1 dX7_guessedCrumpled_7 rfl (lv_at hl 3 rfl) ?_
  refine rkc_vv (As := [.ref (ad x2)]) (rest := []) K KX hw (cc_X1_become l D cy nt ad A X g0 _ 7 x2 hd) lk_X7_349 (ci := 1) rfl (wc_P cy nt ad _ (Or.inl rfl)) ⟨Nat.le_of_ble_eq_true rfl, Nat.le_of_ble_eq_true rfl⟩ ⟨Nat.zero_le _, Nat.zero_le _⟩ rfl hl.1 (Nat.le_of_ble_eq_true rfl) rfl dX7_guessedCrumpled_8 (fun g_2 H locs hd hw => ?_)
  refine rc_gets KX.1 K hw ks_X7_89 dX7_guessedCrumpled_11 ?_
  refine lv_iconst (v := (5 : Int32)) K.1 K.2.1 dX7_guessedCrumpled_14 (by decide) ?_
  have hb := hd.1
  have hd := hd.2
  refine rc_ti (f := tL) KX.2.2.2.1 K hw hb dX7_guessedCrumpled_15 ?_
  refine lv_topi (fun x5_4 ex5_4 => ?_)
  have hd := hd x5_4 ex5_4
  refine lv_istore (lv' := [(5, .int x5_4), (4, .int x4_1), (0, .ref (ad 0)), (1, .ref (ad x1)), (2, .ref (ad x2)), (3, .int x3)]) K.1 K.2.1 dX7_guessedCrumpled_16 hl (by decide) rfl (fun ls hl => ?_)
  obtain ⟨n9, hd⟩ := hd
  exact bb_X7_guessedCrumpled_18 K KX hr   n9 x1 x3 x4_1 x5_4 g_2 _ _ _ hq_x1 hd hw (lv_sub hl [2, 3, 5, 1, 0] rfl)
theorem dX7_guessedTexts_0 : decode cX7_guessedTexts 0 = .ok (.iconst 0, 1) := by decide +kernel
theorem dX7_guessedTexts_1 : decode cX7_guessedTexts 1 = .ok (.istore_n 3, 1) := by decide +kernel
theorem dX7_guessedTexts_2 : decode cX7_guessedTexts 2 = .ok (.iconst 0, 1) := by decide +kernel
theorem dX7_guessedTexts_3 : decode cX7_guessedTexts 3 = .ok (.istore 4, 2) := by decide +kernel
theorem dX7_guessedTexts_5 : decode cX7_guessedTexts 5 = .ok (.iload 4, 2) := by decide +kernel
theorem dX7_guessedTexts_7 : decode cX7_guessedTexts 7 = .ok (.aload_n 0, 1) := by decide +kernel
theorem dX7_guessedTexts_8 : decode cX7_guessedTexts 8 = .ok (.getfield 81, 3) := by decide +kernel
theorem dX7_guessedTexts_11 : decode cX7_guessedTexts 11 = .ok (.if_icmp .ge 32, 3) := by decide +kernel
theorem dX7_guessedTexts_14 : decode cX7_guessedTexts 14 = .ok (.aload_n 0, 1) := by decide +kernel
theorem dX7_guessedTexts_15 : decode cX7_guessedTexts 15 = .ok (.aload_n 1, 1) := by decide +kernel
theorem dX7_guessedTexts_16 : decode cX7_guessedTexts 16 = .ok (.aload_n 2, 1) := by decide +kernel
theorem dX7_guessedTexts_17 : decode cX7_guessedTexts 17 = .ok (.aload_n 0, 1) := by decide +kernel
theorem dX7_guessedTexts_18 : decode cX7_guessedTexts 18 = .ok (.iload 4, 2) := by decide +kernel
theorem dX7_guessedTexts_20 : decode cX7_guessedTexts 20 = .ok (.invokevirtual 136, 3) := by decide +kernel
theorem dX7_guessedTexts_23 : decode cX7_guessedTexts 23 = .ok (.invokevirtual 251, 3) := by decide +kernel
theorem dX7_guessedTexts_26 : decode cX7_guessedTexts 26 = .ok (.iconst (-1), 1) := by decide +kernel
theorem dX7_guessedTexts_27 : decode cX7_guessedTexts 27 = .ok (.if_icmp .ne 10, 3) := by decide +kernel
theorem dX7_guessedTexts_30 : decode cX7_guessedTexts 30 = .ok (.iload_n 3, 1) := by decide +kernel
theorem dX7_guessedTexts_31 : decode cX7_guessedTexts 31 = .ok (.iconst 1, 1) := by decide +kernel
theorem dX7_guessedTexts_32 : decode cX7_guessedTexts 32 = .ok (.iload 4, 2) := by decide +kernel
theorem dX7_guessedTexts_34 : decode cX7_guessedTexts 34 = .ok (.ishl, 1) := by decide +kernel
theorem dX7_guessedTexts_35 : decode cX7_guessedTexts 35 = .ok (.ior, 1) := by decide +kernel
theorem dX7_guessedTexts_36 : decode cX7_guessedTexts 36 = .ok (.istore_n 3, 1) := by decide +kernel
theorem dX7_guessedTexts_37 : decode cX7_guessedTexts 37 = .ok (.iinc 4 1, 3) := by decide +kernel
theorem dX7_guessedTexts_40 : decode cX7_guessedTexts 40 = .ok (.goto (-35), 3) := by decide +kernel
theorem dX7_guessedTexts_43 : decode cX7_guessedTexts 43 = .ok (.iload_n 3, 1) := by decide +kernel
theorem dX7_guessedTexts_44 : decode cX7_guessedTexts 44 = .ok (.ireturn, 1) := by decide +kernel
set_option maxHeartbeats 4000000 in
set_option maxRecDepth 100000 in
theorem bb_X7_guessedTexts_37 {p : Program} {l : Launch} {e : Env} {s : State} {m : MethodId} {args : Array Value} {below : List Frame} {meth : Method} {c : Code} {D : va_G} {cy : Nat → ClassId} {nt : Nat} {ad : Nat → Nat} {A : Nat → Prop} {X : Nat → Nat} {Q : Int32 → Sg → Prop} (K : Kx p s m args meth c cX7_guessedTexts 5 RX7 D cy) (KX : XC X A s s.heap) (hr : meth.sig.returnType = (some .int))  {rc5 : Nat → Nat → Int32 → Int32 → Sg → Prop} (hrc5 : ∀ (x1 : Nat) (x2 : Nat) (x3 : Int32) (x4 : Int32) (u : Sg) (H : Heap) (locs : List Loc) (ls : Array Slot), isS x1 → isP x2 → rc5 x1 x2 x3 x4 u → Wd D A s.heap (wsC cy nt ad u) H locs → lv_has ls 5 [(0, .ref (ad 0)), (1, .ref (ad x1)), (2, .ref (ad x2)), (3, .int x3), (4, .int x4)] → W p l e (rmD 6) s m args below meth c H locs 0 0 (MQ below (va_Qi Q (PostG (wsC cy nt ad) D A) A) args s 0 0 A) (F0 m 5 ls [])) (x1 : Nat) (x2 : Nat) (x3 : Int32) (x4 : Int32)  (g0 : Sg) (H : Heap) (locs : List Loc) (ls : Array Slot) (hq_x1 : isS x1) (hq_x2 : isP x2) (hd : vv_X7_guessedTexts_J37 nt rc5 x1 x2 x3 x4 g0 Q) (hw : Wd D A s.heap (wsC cy nt ad g0) H locs) (hl : lv_has ls 5 [(0, .ref (ad 0)), (1, .ref (ad x1)), (2, .ref (ad x2)), (3, .int x3), (4, .int x4)]) : W p l e (rmD 6) s m args below meth c H locs 0 0 (MQ below (va_Qi Q (PostG (wsC cy nt ad) D A) A) args s 0 0 A) (F0 m 37 ls []) := by
  unfold vv_X7_guessedTexts_J37 at hd
  obtain ⟨x4_9, ex4_9⟩ : ∃ y : Int32, y = x4 + (1 : Int32) := ⟨_, rfl⟩
  have hd := hd x4_9 ex4_9
  refine lv_iinc (v := x4_9) (lv' := [(4, .int x4_9), (0, .ref (ad 0)), (1, .ref (ad x1)), (2, .ref (ad x2)), (3, .int x3)]) K.1 K.2.1 dX7_guessedTexts_37 hl (k := 4) rfl (by rw [ex4_9]; rfl) (by decide) rfl (fun ls hl => ?_)
  refine lv_goto (tgt := 5) K.1 K.2.1 dX7_guessedTexts_40 (by decide) ?_
  exact hrc5 x1 x2 x3 x4_9 g0 _ _ _ hq_x1 hq_x2 hd hw (lv_sub hl [1, 2, 3, 4, 0] rfl)
set_option maxHeartbeats 4000000 in
set_option maxRecDepth 100000 in
theorem bb_X7_guessedTexts_5 {p : Program} {l : Launch} {e : Env} {s : State} {m : MethodId} {args : Array Value} {below : List Frame} {meth : Method} {c : Code} {D : va_G} {cy : Nat → ClassId} {nt : Nat} {ad : Nat → Nat} {A : Nat → Prop} {X : Nat → Nat} {Q : Int32 → Sg → Prop} (K : Kx p s m args meth c cX7_guessedTexts 5 RX7 D cy) (KX : XC X A s s.heap) (hr : meth.sig.returnType = (some .int))  : ∀ (n : Nat) (x1 : Nat) (x2 : Nat) (x3 : Int32) (x4 : Int32)  (g0 : Sg) (H : Heap) (locs : List Loc) (ls : Array Slot), isS x1 → isP x2 → vv_X7_guessedTexts_L5 nt Q n x1 x2 x3 x4 g0 → Wd D A s.heap (wsC cy nt ad g0) H locs → lv_has ls 5 [(0, .ref (ad 0)), (1, .ref (ad x1)), (2, .ref (ad x2)), (3, .int x3), (4, .int x4)] → W p l e (rmD 6) s m args below meth c H locs 0 0 (MQ below (va_Qi Q (PostG (wsC cy nt ad) D A) A) args s 0 0 A) (F0 m 5 ls []) := by
  intro n
  induction n with
  | zero => intro _ _ _ _ _ _ _ _ _ _ hd; exact hd.elim
  | succ n ih =>
    intro x1 x2 x3 x4 g0 H locs ls hq_x1 hq_x2 hd hw hl
    unfold vv_X7_guessedTexts_L5 at hd
    refine lv_iload K.1 K.2.1 dX7_guessedTexts_5 (lv_at hl 4 rfl) ?_
    refine lv_aload_n K.1 K.2.1 dX7_guessedTexts_7 rfl (lv_at hl 0 rfl) ?_
    refine rc_get layX7 (ci := 7) rfl 8 (by decide) (v := .int (g0 0 8)) K hw (wc_O cy nt ad _) kf_X7_81 rfl dX7_guessedTexts_8 ?_
    refine lv_icmp_ge (tgt := 43) K.1 K.2.1 dX7_guessedTexts_11 (by decide) (fun h_3 => ?_) (fun h_3 => ?_)
    · have hd := hd.1 h_3
      refine lv_iload_n K.1 K.2.1 dX7_guessedTexts_43 rfl (lv_at hl 3 rfl) ?_
      exact rk_iret K hw hr hd dX7_guessedTexts_44
    · have hd := hd.2 h_3
      refine lv_aload_n K.1 K.2.1 dX7_guessedTexts_14 rfl (lv_at hl 0 rfl) ?_
      refine lv_aload_n K.1 K.2.1 dX7_guessedTexts_15 rfl (lv_at hl 1 rfl) ?_
      refine lv_aload_n K.1 K.2.1 dX7_guessedTexts_16 rfl (lv_at hl 2 rfl) ?_
      refine lv_aload_n K.1 K.2.1 dX7_guessedTexts_17 rfl (lv_at hl 0 rfl) ?_
      refine lv_iload K.1 K.2.1 dX7_guessedTexts_18 (lv_at hl 4 rfl) ?_
      refine rkc_vt (As := [.int x4]) (rest := [.ref (ad x2), .ref (ad x1), .ref (ad 0)]) K KX hw (cc_X7_textOf l D cy nt ad A X g0 _ x4 hd) lk_X7_136 (ci := 7) rfl (wc_O cy nt ad _) ⟨Nat.le_of_ble_eq_true rfl, Nat.le_of_ble_eq_true rfl⟩ ⟨Nat.zero_le _, Nat.zero_le _⟩ rfl hl.1 (Nat.le_of_ble_eq_true rfl) rfl dX7_guessedTexts_20 (fun r_5 g_4 H locs hd hw => ?_)
      have hq_r_5 := hd.1
      have hd := hd.2
      refine rkc_vi (As := [.ref (ad x1), .ref (ad x2), .ref (ad r_5)]) (rest := []) K KX hw (cc_X7_firstOtherwise l D cy nt ad A X g_4 _ x1 x2 r_5 hd) lk_X7_251 (ci := 7) rfl (wc_O cy nt ad _) ⟨Nat.le_of_ble_eq_true rfl, Nat.le_of_ble_eq_true rfl⟩ ⟨Nat.zero_le _, Nat.zero_le _⟩ rfl hl.1 (Nat.le_of_ble_eq_true rfl) rfl dX7_guessedTexts_23 (fun r_7 g_6 H locs hd hw => ?_)
      refine lv_iconst (v := (-1 : Int32)) K.1 K.2.1 dX7_guessedTexts_26 (by decide) ?_
      refine lv_icmp_ne (tgt := 37) K.1 K.2.1 dX7_guessedTexts_27 (by decide) (fun h_8 => ?_) (fun h_8 => ?_)
      · have hd := hd.1 h_8
        exact bb_X7_guessedTexts_37 K KX hr  ih x1 x2 x3 x4 g_6 _ _ _ hq_x1 hq_x2 hd hw (lv_sub hl [0, 1, 2, 3, 4] rfl)
      · have hd := hd.2 h_8
        refine lv_iload_n K.1 K.2.1 dX7_guessedTexts_30 rfl (lv_at hl 3 rfl) ?_
        refine lv_iconst (v := (1 : Int32)) K.1 K.2.1 dX7_guessedTexts_31 (by decide) ?_
        refine lv_iload K.1 K.2.1 dX7_guessedTexts_32 (lv_at hl 4 rfl) ?_
        refine lv_ishl K.1 K.2.1 dX7_guessedTexts_34 ?_
        refine lv_ior K.1 K.2.1 dX7_guessedTexts_35 ?_
        refine lv_topi (fun x3_10 ex3_10 => ?_)
        have hd := hd x3_10 ex3_10
        refine lv_istore_n (lv' := [(3, .int x3_10), (0, .ref (ad 0)), (1, .ref (ad x1)), (2, .ref (ad x2)), (4, .int x4)]) K.1 K.2.1 dX7_guessedTexts_36 rfl hl (by decide) rfl (fun ls hl => ?_)
        exact bb_X7_guessedTexts_37 K KX hr  ih x1 x2 x3_10 x4 g_6 _ _ _ hq_x1 hq_x2 hd hw (lv_sub hl [1, 2, 3, 0, 4] rfl)
set_option maxHeartbeats 4000000 in
set_option maxRecDepth 100000 in
theorem cc_X7_guessedTexts (l : Launch) (D : va_G) (cy : Nat → ClassId) (nt : Nat) (ad : Nat → Nat) (A : Nat → Prop) (X : Nat → Nat)  (g0 : Sg) (Q : Int32 → Sg → Prop) (x1 : Nat) (x2 : Nat) (hd : vv_X7_guessedTexts nt x1 x2 g0 Q) : Met l yX7_guessedTexts (Cond.code yX7_guessedTexts cX7_guessedTexts 5 (some .int) :: TT) (rmD 6) (va_Pc [.ref (ad 0), .ref (ad x1), .ref (ad x2)] (PreC (wsC cy nt ad) D cy A X g0)) (va_Qi Q (PostG (wsC cy nt ad) D A) A) 0 0 A := by
  unfold vv_X7_guessedTexts at hd
  refine Met.ofW (cc := cX7_guessedTexts) (maxL := 5) (ret := (some .int)) (by decide) rfl ?_
  intro p e s m args below meth c s₁ B hml hv
  obtain ⟨rfl, ⟨hP, hK0, hD⟩, KX⟩ := hv
  have K : Kx p s m _ meth c cX7_guessedTexts 5 RX7 D cy := ⟨B.exec, B.bytes, hml, findClass_of_methodNamed B.named, fun w h => atoms_spec (ws := Cond.code yX7_guessedTexts cX7_guessedTexts 5 (some .int) :: TT) B.pre w (List.mem_cons_of_mem _ h), hK0, B.notSynchronized⟩
  have hw : Wd D A s.heap (wsC cy nt ad g0) s.heap [] := ⟨hP, hD, va_S.rf⟩
  have hr := B.returns
  have hl := lv_entry ([.ref (ad 0), .ref (ad x1), .ref (ad x2)]) (n := 5) (Nat.le_of_ble_eq_true rfl)
  rw [lg_entry_eq]
  generalize (lg_sl ([.ref (ad 0), .ref (ad x1), .ref (ad x2)]) ++ List.replicate (5 - (lg_sl ([.ref (ad 0), .ref (ad x1), .ref (ad x2)])).length) Slot.unset).toArray = ls at hl ⊢
  have hl : lv_has ls 5 [(0, .ref (ad 0)), (1, .ref (ad x1)), (2, .ref (ad x2))] := hl
  have hq_x1 := hd.1
  have hd := hd.2
  have hq_x2 := hd.1
  have hd := hd.2
  refine lv_iconst (v := (0 : Int32)) K.1 K.2.1 dX7_guessedTexts_0 (by decide) ?_
  refine lv_topi (fun x3_1 ex3_1 => ?_)
  have hd := hd x3_1 ex3_1
  refine lv_istore_n (lv' := [(3, .int x3_1), (0, .ref (ad 0)), (1, .ref (ad x1)), (2, .ref (ad x2))]) K.1 K.2.1 dX7_guessedTexts_1 rfl hl (by decide) rfl (fun ls hl => ?_)
  refine lv_iconst (v := (0 : Int32)) K.1 K.2.1 dX7_guessedTexts_2 (by decide) ?_
  refine lv_topi (fun x4_2 ex4_2 => ?_)
  have hd := hd x4_2 ex4_2
  refine lv_istore (lv' := [(4, .int x4_2), (3, .int x3_1), (0, .ref (ad 0)), (1, .ref (ad x1)), (2, .ref (ad x2))]) K.1 K.2.1 dX7_guessedTexts_3 hl (by decide) rfl (fun ls hl => ?_)
  obtain ⟨n9, hd⟩ := hd
  exact bb_X7_guessedTexts_5 K KX hr   n9 x1 x2 x3_1 x4_2 g0 _ _ _ hq_x1 hq_x2 hd hw (lv_sub hl [2, 3, 4, 1, 0] rfl)
theorem dX7_guessedPapers_0 : decode cX7_guessedPapers 0 = .ok (.iconst 0, 1) := by decide +kernel
theorem dX7_guessedPapers_1 : decode cX7_guessedPapers 1 = .ok (.istore_n 2, 1) := by decide +kernel
theorem dX7_guessedPapers_2 : decode cX7_guessedPapers 2 = .ok (.iconst 0, 1) := by decide +kernel
theorem dX7_guessedPapers_3 : decode cX7_guessedPapers 3 = .ok (.istore_n 3, 1) := by decide +kernel
theorem dX7_guessedPapers_4 : decode cX7_guessedPapers 4 = .ok (.iload_n 3, 1) := by decide +kernel
theorem dX7_guessedPapers_5 : decode cX7_guessedPapers 5 = .ok (.aload_n 0, 1) := by decide +kernel
theorem dX7_guessedPapers_6 : decode cX7_guessedPapers 6 = .ok (.getfield 10, 3) := by decide +kernel
theorem dX7_guessedPapers_9 : decode cX7_guessedPapers 9 = .ok (.getfield 117, 3) := by decide +kernel
theorem dX7_guessedPapers_12 : decode cX7_guessedPapers 12 = .ok (.if_icmp .ge 44, 3) := by decide +kernel
theorem dX7_guessedPapers_15 : decode cX7_guessedPapers 15 = .ok (.aload_n 0, 1) := by decide +kernel
theorem dX7_guessedPapers_16 : decode cX7_guessedPapers 16 = .ok (.aload_n 1, 1) := by decide +kernel
theorem dX7_guessedPapers_17 : decode cX7_guessedPapers 17 = .ok (.aload_n 0, 1) := by decide +kernel
theorem dX7_guessedPapers_18 : decode cX7_guessedPapers 18 = .ok (.getfield 10, 3) := by decide +kernel
theorem dX7_guessedPapers_21 : decode cX7_guessedPapers 21 = .ok (.getfield 106, 3) := by decide +kernel
theorem dX7_guessedPapers_24 : decode cX7_guessedPapers 24 = .ok (.iload_n 3, 1) := by decide +kernel
theorem dX7_guessedPapers_25 : decode cX7_guessedPapers 25 = .ok (.aaload, 1) := by decide +kernel
theorem dX7_guessedPapers_26 : decode cX7_guessedPapers 26 = .ok (.aload_n 0, 1) := by decide +kernel
theorem dX7_guessedPapers_27 : decode cX7_guessedPapers 27 = .ok (.aload_n 0, 1) := by decide +kernel
theorem dX7_guessedPapers_28 : decode cX7_guessedPapers 28 = .ok (.getfield 10, 3) := by decide +kernel
theorem dX7_guessedPapers_31 : decode cX7_guessedPapers 31 = .ok (.getfield 133, 3) := by decide +kernel
theorem dX7_guessedPapers_34 : decode cX7_guessedPapers 34 = .ok (.invokevirtual 136, 3) := by decide +kernel
theorem dX7_guessedPapers_37 : decode cX7_guessedPapers 37 = .ok (.invokevirtual 251, 3) := by decide +kernel
theorem dX7_guessedPapers_40 : decode cX7_guessedPapers 40 = .ok (.iconst (-1), 1) := by decide +kernel
theorem dX7_guessedPapers_41 : decode cX7_guessedPapers 41 = .ok (.if_icmp .ne 9, 3) := by decide +kernel
theorem dX7_guessedPapers_44 : decode cX7_guessedPapers 44 = .ok (.iload_n 2, 1) := by decide +kernel
theorem dX7_guessedPapers_45 : decode cX7_guessedPapers 45 = .ok (.iconst 1, 1) := by decide +kernel
theorem dX7_guessedPapers_46 : decode cX7_guessedPapers 46 = .ok (.iload_n 3, 1) := by decide +kernel
theorem dX7_guessedPapers_47 : decode cX7_guessedPapers 47 = .ok (.ishl, 1) := by decide +kernel
theorem dX7_guessedPapers_48 : decode cX7_guessedPapers 48 = .ok (.ior, 1) := by decide +kernel
theorem dX7_guessedPapers_49 : decode cX7_guessedPapers 49 = .ok (.istore_n 2, 1) := by decide +kernel
theorem dX7_guessedPapers_50 : decode cX7_guessedPapers 50 = .ok (.iinc 3 1, 3) := by decide +kernel
theorem dX7_guessedPapers_53 : decode cX7_guessedPapers 53 = .ok (.goto (-49), 3) := by decide +kernel
theorem dX7_guessedPapers_56 : decode cX7_guessedPapers 56 = .ok (.iload_n 2, 1) := by decide +kernel
theorem dX7_guessedPapers_57 : decode cX7_guessedPapers 57 = .ok (.ireturn, 1) := by decide +kernel
set_option maxHeartbeats 4000000 in
set_option maxRecDepth 100000 in
theorem bb_X7_guessedPapers_50 {p : Program} {l : Launch} {e : Env} {s : State} {m : MethodId} {args : Array Value} {below : List Frame} {meth : Method} {c : Code} {D : va_G} {cy : Nat → ClassId} {nt : Nat} {ad : Nat → Nat} {A : Nat → Prop} {X : Nat → Nat} {Q : Int32 → Sg → Prop} (K : Kx p s m args meth c cX7_guessedPapers 4 RX7 D cy) (KX : XC X A s s.heap) (hr : meth.sig.returnType = (some .int))  {rc4 : Nat → Int32 → Int32 → Sg → Prop} (hrc4 : ∀ (x1 : Nat) (x2 : Int32) (x3 : Int32) (u : Sg) (H : Heap) (locs : List Loc) (ls : Array Slot), isS x1 → rc4 x1 x2 x3 u → Wd D A s.heap (wsC cy nt ad u) H locs → lv_has ls 4 [(0, .ref (ad 0)), (1, .ref (ad x1)), (2, .int x2), (3, .int x3)] → W p l e (rmD 6) s m args below meth c H locs 0 0 (MQ below (va_Qi Q (PostG (wsC cy nt ad) D A) A) args s 0 0 A) (F0 m 4 ls [])) (x1 : Nat) (x2 : Int32) (x3 : Int32)  (g0 : Sg) (H : Heap) (locs : List Loc) (ls : Array Slot) (hq_x1 : isS x1) (hd : vv_X7_guessedPapers_J50 nt rc4 x1 x2 x3 g0 Q) (hw : Wd D A s.heap (wsC cy nt ad g0) H locs) (hl : lv_has ls 4 [(0, .ref (ad 0)), (1, .ref (ad x1)), (2, .int x2), (3, .int x3)]) : W p l e (rmD 6) s m args below meth c H locs 0 0 (MQ below (va_Qi Q (PostG (wsC cy nt ad) D A) A) args s 0 0 A) (F0 m 50 ls []) := by
  unfold vv_X7_guessedPapers_J50 at hd
  obtain ⟨x3_10, ex3_10⟩ : ∃ y : Int32, y = x3 + (1 : Int32) := ⟨_, rfl⟩
  have hd := hd x3_10 ex3_10
  refine lv_iinc (v := x3_10) (lv' := [(3, .int x3_10), (0, .ref (ad 0)), (1, .ref (ad x1)), (2, .int x2)]) K.1 K.2.1 dX7_guessedPapers_50 hl (k := 3) rfl (by rw [ex3_10]; rfl) (by decide) rfl (fun ls hl => ?_)
  refine lv_goto (tgt := 4) K.1 K.2.1 dX7_guessedPapers_53 (by decide) ?_
  exact hrc4 x1 x2 x3_10 g0 _ _ _ hq_x1 hd hw (lv_sub hl [1, 2, 3, 0] rfl)
set_option maxHeartbeats 4000000 in
set_option maxRecDepth 100000 in
theorem bb_X7_guessedPapers_4 {p : Program} {l : Launch} {e : Env} {s : State} {m : MethodId} {args : Array Value} {below : List Frame} {meth : Method} {c : Code} {D : va_G} {cy : Nat → ClassId} {nt : Nat} {ad : Nat → Nat} {A : Nat → Prop} {X : Nat → Nat} {Q : Int32 → Sg → Prop} (K : Kx p s m args meth c cX7_guessedPapers 4 RX7 D cy) (KX : XC X A s s.heap) (hr : meth.sig.returnType = (some .int))  : ∀ (n : Nat) (x1 : Nat) (x2 : Int32) (x3 : Int32)  (g0 : Sg) (H : Heap) (locs : List Loc) (ls : Array Slot), isS x1 → vv_X7_guessedPapers_L4 nt Q n x1 x2 x3 g0 → Wd D A s.heap (wsC cy nt ad g0) H locs → lv_has ls 4 [(0, .ref (ad 0)), (1, .ref (ad x1)), (2, .int x2), (3, .int x3)] → W p l e (rmD 6) s m args below meth c H locs 0 0 (MQ below (va_Qi Q (PostG (wsC cy nt ad) D A) A) args s 0 0 A) (F0 m 4 ls []) := by
  intro n
  induction n with
  | zero => intro _ _ _ _ _ _ _ _ hd; exact hd.elim
  | succ n ih =>
    intro x1 x2 x3 g0 H locs ls hq_x1 hd hw hl
    unfold vv_X7_guessedPapers_L4 at hd
    refine lv_iload_n K.1 K.2.1 dX7_guessedPapers_4 rfl (lv_at hl 3 rfl) ?_
    refine lv_aload_n K.1 K.2.1 dX7_guessedPapers_5 rfl (lv_at hl 0 rfl) ?_
    refine rc_get layX7 (ci := 7) rfl 0 (by decide) (v := .ref (ad 1)) K hw (wc_O cy nt ad _) kf_X7_10 rfl dX7_guessedPapers_6 ?_
    refine rc_get layX0 (ci := 0) rfl 2 (by decide) (v := .int (g0 1 2)) K hw (wc_B cy nt ad _ ⟨by decide, by decide⟩) kf_X7_117 rfl dX7_guessedPapers_9 ?_
    refine lv_icmp_ge (tgt := 56) K.1 K.2.1 dX7_guessedPapers_12 (by decide) (fun h_3 => ?_) (fun h_3 => ?_)
    · have hd := hd.1 h_3
      refine lv_iload_n K.1 K.2.1 dX7_guessedPapers_56 rfl (lv_at hl 2 rfl) ?_
      exact rk_iret K hw hr hd dX7_guessedPapers_57
    · have hd := hd.2 h_3
      refine lv_aload_n K.1 K.2.1 dX7_guessedPapers_15 rfl (lv_at hl 0 rfl) ?_
      refine lv_aload_n K.1 K.2.1 dX7_guessedPapers_16 rfl (lv_at hl 1 rfl) ?_
      refine lv_aload_n K.1 K.2.1 dX7_guessedPapers_17 rfl (lv_at hl 0 rfl) ?_
      refine rc_get layX7 (ci := 7) rfl 0 (by decide) (v := .ref (ad 1)) K hw (wc_O cy nt ad _) kf_X7_10 rfl dX7_guessedPapers_18 ?_
      refine rc_get layX0 (ci := 0) rfl 4 (by decide) (v := .ref (ad 4)) K hw (wc_B cy nt ad _ ⟨by decide, by decide⟩) kf_X7_106 rfl dX7_guessedPapers_21 ?_
      refine lv_iload_n K.1 K.2.1 dX7_guessedPapers_24 rfl (lv_at hl 3 rfl) ?_
      have hb_4 := hd.1
      have hd := hd.2
      refine rc_aald (t0 := 2) (b := ad (pp 4 x3)) K hw (wc_R cy nt ad _ ⟨by decide, by decide⟩) rfl rfl hb_4 dX7_guessedPapers_25 ?_
      refine lv_aload_n K.1 K.2.1 dX7_guessedPapers_26 rfl (lv_at hl 0 rfl) ?_
      refine lv_aload_n K.1 K.2.1 dX7_guessedPapers_27 rfl (lv_at hl 0 rfl) ?_
      refine rc_get layX7 (ci := 7) rfl 0 (by decide) (v := .ref (ad 1)) K hw (wc_O cy nt ad _) kf_X7_10 rfl dX7_guessedPapers_28 ?_
      refine rc_get layX0 (ci := 0) rfl 1 (by decide) (v := .int (g0 1 1)) K hw (wc_B cy nt ad _ ⟨by decide, by decide⟩) kf_X7_133 rfl dX7_guessedPapers_31 ?_
      refine rkc_vt (As := [.int (g0 1 1)]) (rest := [.ref (ad (pp 4 x3)), .ref (ad x1), .ref (ad 0)]) K KX hw (cc_X7_textOf l D cy nt ad A X g0 _ (g0 1 1) hd) lk_X7_136 (ci := 7) rfl (wc_O cy nt ad _) ⟨Nat.le_of_ble_eq_true rfl, Nat.le_of_ble_eq_true rfl⟩ ⟨Nat.zero_le _, Nat.zero_le _⟩ rfl hl.1 (Nat.le_of_ble_eq_true rfl) rfl dX7_guessedPapers_34 (fun r_6 g_5 H locs hd hw => ?_)
      have hq_r_6 := hd.1
      have hd := hd.2
      refine rkc_vi (As := [.ref (ad x1), .ref (ad (pp 4 x3)), .ref (ad r_6)]) (rest := []) K KX hw (cc_X7_firstOtherwise l D cy nt ad A X g_5 _ x1 (pp 4 x3) r_6 hd) lk_X7_251 (ci := 7) rfl (wc_O cy nt ad _) ⟨Nat.le_of_ble_eq_true rfl, Nat.le_of_ble_eq_true rfl⟩ ⟨Nat.zero_le _, Nat.zero_le _⟩ rfl hl.1 (Nat.le_of_ble_eq_true rfl) rfl dX7_guessedPapers_37 (fun r_8 g_7 H locs hd hw => ?_)
      refine lv_iconst (v := (-1 : Int32)) K.1 K.2.1 dX7_guessedPapers_40 (by decide) ?_
      refine lv_icmp_ne (tgt := 50) K.1 K.2.1 dX7_guessedPapers_41 (by decide) (fun h_9 => ?_) (fun h_9 => ?_)
      · have hd := hd.1 h_9
        exact bb_X7_guessedPapers_50 K KX hr  ih x1 x2 x3 g_7 _ _ _ hq_x1 hd hw (lv_sub hl [0, 1, 2, 3] rfl)
      · have hd := hd.2 h_9
        refine lv_iload_n K.1 K.2.1 dX7_guessedPapers_44 rfl (lv_at hl 2 rfl) ?_
        refine lv_iconst (v := (1 : Int32)) K.1 K.2.1 dX7_guessedPapers_45 (by decide) ?_
        refine lv_iload_n K.1 K.2.1 dX7_guessedPapers_46 rfl (lv_at hl 3 rfl) ?_
        refine lv_ishl K.1 K.2.1 dX7_guessedPapers_47 ?_
        refine lv_ior K.1 K.2.1 dX7_guessedPapers_48 ?_
        refine lv_topi (fun x2_11 ex2_11 => ?_)
        have hd := hd x2_11 ex2_11
        refine lv_istore_n (lv' := [(2, .int x2_11), (0, .ref (ad 0)), (1, .ref (ad x1)), (3, .int x3)]) K.1 K.2.1 dX7_guessedPapers_49 rfl hl (by decide) rfl (fun ls hl => ?_)
        exact bb_X7_guessedPapers_50 K KX hr  ih x1 x2_11 x3 g_7 _ _ _ hq_x1 hd hw (lv_sub hl [1, 2, 0, 3] rfl)
set_option maxHeartbeats 4000000 in
set_option maxRecDepth 100000 in
theorem cc_X7_guessedPapers (l : Launch) (D : va_G) (cy : Nat → ClassId) (nt : Nat) (ad : Nat → Nat) (A : Nat → Prop) (X : Nat → Nat)  (g0 : Sg) (Q : Int32 → Sg → Prop) (x1 : Nat) (hd : vv_X7_guessedPapers nt x1 g0 Q) : Met l yX7_guessedPapers (Cond.code yX7_guessedPapers cX7_guessedPapers 4 (some .int) :: TT) (rmD 6) (va_Pc [.ref (ad 0), .ref (ad x1)] (PreC (wsC cy nt ad) D cy A X g0)) (va_Qi Q (PostG (wsC cy nt ad) D A) A) 0 0 A := by
  unfold vv_X7_guessedPapers at hd
  refine Met.ofW (cc := cX7_guessedPapers) (maxL := 4) (ret := (some .int)) (by decide) rfl ?_
  intro p e s m args below meth c s₁ B hml hv
  obtain ⟨rfl, ⟨hP, hK0, hD⟩, KX⟩ := hv
  have K : Kx p s m _ meth c cX7_guessedPapers 4 RX7 D cy := ⟨B.exec, B.bytes, hml, findClass_of_methodNamed B.named, fun w h => atoms_spec (ws := Cond.code yX7_guessedPapers cX7_guessedPapers 4 (some .int) :: TT) B.pre w (List.mem_cons_of_mem _ h), hK0, B.notSynchronized⟩
  have hw : Wd D A s.heap (wsC cy nt ad g0) s.heap [] := ⟨hP, hD, va_S.rf⟩
  have hr := B.returns
  have hl := lv_entry ([.ref (ad 0), .ref (ad x1)]) (n := 4) (Nat.le_of_ble_eq_true rfl)
  rw [lg_entry_eq]
  generalize (lg_sl ([.ref (ad 0), .ref (ad x1)]) ++ List.replicate (4 - (lg_sl ([.ref (ad 0), .ref (ad x1)])).length) Slot.unset).toArray = ls at hl ⊢
  have hl : lv_has ls 4 [(0, .ref (ad 0)), (1, .ref (ad x1))] := hl
  have hq_x1 := hd.1
  have hd := hd.2
  refine lv_iconst (v := (0 : Int32)) K.1 K.2.1 dX7_guessedPapers_0 (by decide) ?_
  refine lv_topi (fun x2_1 ex2_1 => ?_)
  have hd := hd x2_1 ex2_1
  refine lv_istore_n (lv' := [(2, .int x2_1), (0, .ref (ad 0)), (1, .ref (ad x1))]) K.1 K.2.1 dX7_guessedPapers_1 rfl hl (by decide) rfl (fun ls hl => ?_)
  refine lv_iconst (v := (0 : Int32)) K.1 K.2.1 dX7_guessedPapers_2 (by decide) ?_
  refine lv_topi (fun x3_2 ex3_2 => ?_)
  have hd := hd x3_2 ex3_2
  refine lv_istore_n (lv' := [(3, .int x3_2), (2, .int x2_1), (0, .ref (ad 0)), (1, .ref (ad x1))]) K.1 K.2.1 dX7_guessedPapers_3 rfl hl (by decide) rfl (fun ls hl => ?_)
  obtain ⟨n9, hd⟩ := hd
  exact bb_X7_guessedPapers_4 K KX hr   n9 x1 x2_1 x3_2 g0 _ _ _ hq_x1 hd hw (lv_sub hl [2, 3, 1, 0] rfl)
theorem dX7_tells_0 : decode cX7_tells 0 = .ok (.iload_n 1, 1) := by decide +kernel
theorem dX7_tells_1 : decode cX7_tells 1 = .ok (.invokestatic 244, 3) := by decide +kernel
theorem dX7_tells_4 : decode cX7_tells 4 = .ok (.ifCond .eq 21, 3) := by decide +kernel
theorem dX7_tells_7 : decode cX7_tells 7 = .ok (.aload_n 0, 1) := by decide +kernel
theorem dX7_tells_8 : decode cX7_tells 8 = .ok (.iload_n 2, 1) := by decide +kernel
theorem dX7_tells_9 : decode cX7_tells 9 = .ok (.invokevirtual 85, 3) := by decide +kernel
theorem dX7_tells_12 : decode cX7_tells 12 = .ok (.ifCond .eq 13, 3) := by decide +kernel
theorem dX7_tells_15 : decode cX7_tells 15 = .ok (.iload_n 3, 1) := by decide +kernel
theorem dX7_tells_16 : decode cX7_tells 16 = .ok (.ifCond .lt 9, 3) := by decide +kernel
theorem dX7_tells_19 : decode cX7_tells 19 = .ok (.iload_n 3, 1) := by decide +kernel
theorem dX7_tells_20 : decode cX7_tells 20 = .ok (.bipush 7, 2) := by decide +kernel
theorem dX7_tells_22 : decode cX7_tells 22 = .ok (.if_icmp .le 6, 3) := by decide +kernel
theorem dX7_tells_25 : decode cX7_tells 25 = .ok (.bipush (-2), 2) := by decide +kernel
theorem dX7_tells_27 : decode cX7_tells 27 = .ok (.ireturn, 1) := by decide +kernel
theorem dX7_tells_28 : decode cX7_tells 28 = .ok (.aload_n 0, 1) := by decide +kernel
theorem dX7_tells_29 : decode cX7_tells 29 = .ok (.getfield 53, 3) := by decide +kernel
theorem dX7_tells_32 : decode cX7_tells 32 = .ok (.iload_n 1, 1) := by decide +kernel
theorem dX7_tells_33 : decode cX7_tells 33 = .ok (.aaload, 1) := by decide +kernel
theorem dX7_tells_34 : decode cX7_tells 34 = .ok (.astore 4, 2) := by decide +kernel
theorem dX7_tells_36 : decode cX7_tells 36 = .ok (.aload 4, 2) := by decide +kernel
theorem dX7_tells_38 : decode cX7_tells 38 = .ok (.getfield 247, 3) := by decide +kernel
theorem dX7_tells_41 : decode cX7_tells 41 = .ok (.iconst (-1), 1) := by decide +kernel
theorem dX7_tells_42 : decode cX7_tells 42 = .ok (.if_icmp .ne 6, 3) := by decide +kernel
theorem dX7_tells_45 : decode cX7_tells 45 = .ok (.bipush (-11), 2) := by decide +kernel
theorem dX7_tells_47 : decode cX7_tells 47 = .ok (.ireturn, 1) := by decide +kernel
theorem dX7_tells_48 : decode cX7_tells 48 = .ok (.aload 4, 2) := by decide +kernel
theorem dX7_tells_50 : decode cX7_tells 50 = .ok (.getfield 250, 3) := by decide +kernel
theorem dX7_tells_53 : decode cX7_tells 53 = .ok (.bipush 8, 2) := by decide +kernel
theorem dX7_tells_55 : decode cX7_tells 55 = .ok (.if_icmp .eq 6, 3) := by decide +kernel
theorem dX7_tells_58 : decode cX7_tells 58 = .ok (.bipush (-2), 2) := by decide +kernel
theorem dX7_tells_60 : decode cX7_tells 60 = .ok (.ireturn, 1) := by decide +kernel
theorem dX7_tells_61 : decode cX7_tells 61 = .ok (.aload_n 0, 1) := by decide +kernel
theorem dX7_tells_62 : decode cX7_tells 62 = .ok (.getfield 10, 3) := by decide +kernel
theorem dX7_tells_65 : decode cX7_tells 65 = .ok (.getfield 106, 3) := by decide +kernel
theorem dX7_tells_68 : decode cX7_tells 68 = .ok (.iload_n 2, 1) := by decide +kernel
theorem dX7_tells_69 : decode cX7_tells 69 = .ok (.aaload, 1) := by decide +kernel
theorem dX7_tells_70 : decode cX7_tells 70 = .ok (.astore 5, 2) := by decide +kernel
theorem dX7_tells_72 : decode cX7_tells 72 = .ok (.iload_n 3, 1) := by decide +kernel
theorem dX7_tells_73 : decode cX7_tells 73 = .ok (.tableswitch 123 0 6 #[43, 63, 74, 84, 94, 104, 114], 43) := by decide +kernel
theorem dX7_tells_116 : decode cX7_tells 116 = .ok (.aload_n 0, 1) := by decide +kernel
theorem dX7_tells_117 : decode cX7_tells 117 = .ok (.aload 4, 2) := by decide +kernel
theorem dX7_tells_119 : decode cX7_tells 119 = .ok (.aload 5, 2) := by decide +kernel
theorem dX7_tells_121 : decode cX7_tells 121 = .ok (.aload_n 0, 1) := by decide +kernel
theorem dX7_tells_122 : decode cX7_tells 122 = .ok (.aload_n 0, 1) := by decide +kernel
theorem dX7_tells_123 : decode cX7_tells 123 = .ok (.getfield 10, 3) := by decide +kernel
theorem dX7_tells_126 : decode cX7_tells 126 = .ok (.getfield 133, 3) := by decide +kernel
theorem dX7_tells_129 : decode cX7_tells 129 = .ok (.invokevirtual 136, 3) := by decide +kernel
theorem dX7_tells_132 : decode cX7_tells 132 = .ok (.invokevirtual 251, 3) := by decide +kernel
theorem dX7_tells_135 : decode cX7_tells 135 = .ok (.ireturn, 1) := by decide +kernel
theorem dX7_tells_136 : decode cX7_tells 136 = .ok (.aload_n 0, 1) := by decide +kernel
theorem dX7_tells_137 : decode cX7_tells 137 = .ok (.aload 4, 2) := by decide +kernel
theorem dX7_tells_139 : decode cX7_tells 139 = .ok (.aload 5, 2) := by decide +kernel
theorem dX7_tells_141 : decode cX7_tells 141 = .ok (.bipush 7, 2) := by decide +kernel
theorem dX7_tells_143 : decode cX7_tells 143 = .ok (.invokevirtual 255, 3) := by decide +kernel
theorem dX7_tells_146 : decode cX7_tells 146 = .ok (.ireturn, 1) := by decide +kernel
theorem dX7_tells_147 : decode cX7_tells 147 = .ok (.aload_n 0, 1) := by decide +kernel
theorem dX7_tells_148 : decode cX7_tells 148 = .ok (.aload 4, 2) := by decide +kernel
theorem dX7_tells_150 : decode cX7_tells 150 = .ok (.aload 5, 2) := by decide +kernel
theorem dX7_tells_152 : decode cX7_tells 152 = .ok (.iconst 2, 1) := by decide +kernel
theorem dX7_tells_153 : decode cX7_tells 153 = .ok (.invokevirtual 255, 3) := by decide +kernel
theorem dX7_tells_156 : decode cX7_tells 156 = .ok (.ireturn, 1) := by decide +kernel
theorem dX7_tells_157 : decode cX7_tells 157 = .ok (.aload_n 0, 1) := by decide +kernel
theorem dX7_tells_158 : decode cX7_tells 158 = .ok (.aload 4, 2) := by decide +kernel
theorem dX7_tells_160 : decode cX7_tells 160 = .ok (.aload 5, 2) := by decide +kernel
theorem dX7_tells_162 : decode cX7_tells 162 = .ok (.iconst 3, 1) := by decide +kernel
theorem dX7_tells_163 : decode cX7_tells 163 = .ok (.invokevirtual 255, 3) := by decide +kernel
theorem dX7_tells_166 : decode cX7_tells 166 = .ok (.ireturn, 1) := by decide +kernel
theorem dX7_tells_167 : decode cX7_tells 167 = .ok (.aload_n 0, 1) := by decide +kernel
theorem dX7_tells_168 : decode cX7_tells 168 = .ok (.aload 4, 2) := by decide +kernel
theorem dX7_tells_170 : decode cX7_tells 170 = .ok (.aload 5, 2) := by decide +kernel
theorem dX7_tells_172 : decode cX7_tells 172 = .ok (.iconst 0, 1) := by decide +kernel
theorem dX7_tells_173 : decode cX7_tells 173 = .ok (.invokevirtual 259, 3) := by decide +kernel
theorem dX7_tells_176 : decode cX7_tells 176 = .ok (.ireturn, 1) := by decide +kernel
theorem dX7_tells_177 : decode cX7_tells 177 = .ok (.aload_n 0, 1) := by decide +kernel
theorem dX7_tells_178 : decode cX7_tells 178 = .ok (.aload 4, 2) := by decide +kernel
theorem dX7_tells_180 : decode cX7_tells 180 = .ok (.aload 5, 2) := by decide +kernel
theorem dX7_tells_182 : decode cX7_tells 182 = .ok (.iconst 1, 1) := by decide +kernel
theorem dX7_tells_183 : decode cX7_tells 183 = .ok (.invokevirtual 259, 3) := by decide +kernel
theorem dX7_tells_186 : decode cX7_tells 186 = .ok (.ireturn, 1) := by decide +kernel
theorem dX7_tells_187 : decode cX7_tells 187 = .ok (.aload_n 0, 1) := by decide +kernel
theorem dX7_tells_188 : decode cX7_tells 188 = .ok (.aload 4, 2) := by decide +kernel
theorem dX7_tells_190 : decode cX7_tells 190 = .ok (.aload 5, 2) := by decide +kernel
theorem dX7_tells_192 : decode cX7_tells 192 = .ok (.invokevirtual 263, 3) := by decide +kernel
theorem dX7_tells_195 : decode cX7_tells 195 = .ok (.ireturn, 1) := by decide +kernel
theorem dX7_tells_196 : decode cX7_tells 196 = .ok (.aload_n 0, 1) := by decide +kernel
theorem dX7_tells_197 : decode cX7_tells 197 = .ok (.aload 4, 2) := by decide +kernel
theorem dX7_tells_199 : decode cX7_tells 199 = .ok (.invokevirtual 267, 3) := by decide +kernel
theorem dX7_tells_202 : decode cX7_tells 202 = .ok (.ireturn, 1) := by decide +kernel
set_option maxHeartbeats 4000000 in
set_option maxRecDepth 100000 in
theorem cc_X7_tells (l : Launch) (D : va_G) (cy : Nat → ClassId) (nt : Nat) (ad : Nat → Nat) (A : Nat → Prop) (X : Nat → Nat)  (g0 : Sg) (Q : Int32 → Sg → Prop) (x1 : Int32) (x2 : Int32) (x3 : Int32) (hd : vv_X7_tells nt x1 x2 x3 g0 Q) : Met l yX7_tells (Cond.code yX7_tells cX7_tells 6 (some .int) :: TT) (rmD 7) (va_Pc [.ref (ad 0), .int x1, .int x2, .int x3] (PreC (wsC cy nt ad) D cy A X g0)) (va_Qi Q (PostG (wsC cy nt ad) D A) A) 0 0 A := by
  unfold vv_X7_tells at hd
  refine Met.ofW (cc := cX7_tells) (maxL := 6) (ret := (some .int)) (by decide) rfl ?_
  intro p e s m args below meth c s₁ B hml hv
  obtain ⟨rfl, ⟨hP, hK0, hD⟩, KX⟩ := hv
  have K : Kx p s m _ meth c cX7_tells 6 RX7 D cy := ⟨B.exec, B.bytes, hml, findClass_of_methodNamed B.named, fun w h => atoms_spec (ws := Cond.code yX7_tells cX7_tells 6 (some .int) :: TT) B.pre w (List.mem_cons_of_mem _ h), hK0, B.notSynchronized⟩
  have hw : Wd D A s.heap (wsC cy nt ad g0) s.heap [] := ⟨hP, hD, va_S.rf⟩
  have hr := B.returns
  have hl := lv_entry ([.ref (ad 0), .int x1, .int x2, .int x3]) (n := 6) (Nat.le_of_ble_eq_true rfl)
  rw [lg_entry_eq]
  generalize (lg_sl ([.ref (ad 0), .int x1, .int x2, .int x3]) ++ List.replicate (6 - (lg_sl ([.ref (ad 0), .int x1, .int x2, .int x3])).length) Slot.unset).toArray = ls at hl ⊢
  have hl : lv_has ls 6 [(0, .ref (ad 0)), (1, .int x1), (2, .int x2), (3, .int x3)] := hl
  refine lv_iload_n K.1 K.2.1 dX7_tells_0 rfl (lv_at hl 1 rfl) ?_
  refine rkc_si (As := [.int x1]) (rest := []) K KX hw (cc_X7_isSheet l D cy nt ad A X g0 _ x1 hd) lk_X7_244 ⟨Nat.le_of_ble_eq_true rfl, Nat.le_of_ble_eq_true rfl⟩ ⟨Nat.zero_le _, Nat.zero_le _⟩ rfl hl.1 (Nat.le_of_ble_eq_true rfl) rfl dX7_tells_1 (fun r_2 g_1 H locs hd hw => ?_)
  refine lv_if_eq (tgt := 25) K.1 K.2.1 dX7_tells_4 (by decide) (fun h_3 => ?_) (fun h_3 => ?_)
  · have hd := hd.1 h_3
    refine lv_bipush (v := (-2 : Int32)) K.1 K.2.1 dX7_tells_25 (by decide) ?_
    exact rk_iret K hw hr hd dX7_tells_27
  · have hd := hd.2 h_3
    refine lv_aload_n K.1 K.2.1 dX7_tells_7 rfl (lv_at hl 0 rfl) ?_
    refine lv_iload_n K.1 K.2.1 dX7_tells_8 rfl (lv_at hl 2 rfl) ?_
    refine rkc_vi (As := [.int x2]) (rest := []) K KX hw (cc_X7_isPaper l D cy nt ad A X g_1 _ x2 hd) lk_X7_85 (ci := 7) rfl (wc_O cy nt ad _) ⟨Nat.le_of_ble_eq_true rfl, Nat.le_of_ble_eq_true rfl⟩ ⟨Nat.zero_le _, Nat.zero_le _⟩ rfl hl.1 (Nat.le_of_ble_eq_true rfl) rfl dX7_tells_9 (fun r_5 g_4 H locs hd hw => ?_)
    refine lv_if_eq (tgt := 25) K.1 K.2.1 dX7_tells_12 (by decide) (fun h_6 => ?_) (fun h_6 => ?_)
    · have hd := hd.1 h_6
      refine lv_bipush (v := (-2 : Int32)) K.1 K.2.1 dX7_tells_25 (by decide) ?_
      exact rk_iret K hw hr hd dX7_tells_27
    · have hd := hd.2 h_6
      refine lv_iload_n K.1 K.2.1 dX7_tells_15 rfl (lv_at hl 3 rfl) ?_
      refine lv_if_lt (tgt := 25) K.1 K.2.1 dX7_tells_16 (by decide) (fun h_7 => ?_) (fun h_7 => ?_)
      · have hd := hd.1 h_7
        refine lv_bipush (v := (-2 : Int32)) K.1 K.2.1 dX7_tells_25 (by decide) ?_
        exact rk_iret K hw hr hd dX7_tells_27
      · have hd := hd.2 h_7
        refine lv_iload_n K.1 K.2.1 dX7_tells_19 rfl (lv_at hl 3 rfl) ?_
        refine lv_bipush (v := (7 : Int32)) K.1 K.2.1 dX7_tells_20 (by decide) ?_
        refine lv_icmp_le (tgt := 28) K.1 K.2.1 dX7_tells_22 (by decide) (fun h_8 => ?_) (fun h_8 => ?_)
        · have hd := hd.1 h_8
          refine lv_aload_n K.1 K.2.1 dX7_tells_28 rfl (lv_at hl 0 rfl) ?_
          refine rc_get layX7 (ci := 7) rfl 9 (by decide) (v := .ref (ad 13)) K hw (wc_O cy nt ad _) kf_X7_53 rfl dX7_tells_29 ?_
          refine lv_iload_n K.1 K.2.1 dX7_tells_32 rfl (lv_at hl 1 rfl) ?_
          have hb_9 := hd.1
          have hd := hd.2
          refine rc_aald (t0 := 3) (b := ad (ss x1)) K hw (wc_13 cy nt ad _) rfl rfl hb_9 dX7_tells_33 ?_
          refine lv_astore (lv' := [(4, .ref (ad (ss x1))), (0, .ref (ad 0)), (1, .int x1), (2, .int x2), (3, .int x3)]) K.1 K.2.1 dX7_tells_34 hl (by decide) rfl (fun ls hl => ?_)
          refine lv_aload K.1 K.2.1 dX7_tells_36 (lv_at hl 0 rfl) ?_
          refine rc_get layX3 (ci := 3) rfl 0 (by decide) (v := .int (g_4 (ss x1) 0)) K hw (wc_S cy nt ad _ (tS_S hb_9)) kf_X7_247 rfl dX7_tells_38 ?_
          refine lv_iconst (v := (-1 : Int32)) K.1 K.2.1 dX7_tells_41 (by decide) ?_
          refine lv_icmp_ne (tgt := 48) K.1 K.2.1 dX7_tells_42 (by decide) (fun h_10 => ?_) (fun h_10 => ?_)
          · have hd := hd.1 h_10
            refine lv_aload K.1 K.2.1 dX7_tells_48 (lv_at hl 0 rfl) ?_
            refine rc_get layX3 (ci := 3) rfl 1 (by decide) (v := .int (g_4 (ss x1) 1)) K hw (wc_S cy nt ad _ (tS_S hb_9)) kf_X7_250 rfl dX7_tells_50 ?_
            refine lv_bipush (v := (8 : Int32)) K.1 K.2.1 dX7_tells_53 (by decide) ?_
            refine lv_icmp_eq (tgt := 61) K.1 K.2.1 dX7_tells_55 (by decide) (fun h_11 => ?_) (fun h_11 => ?_)
            · have hd := hd.1 h_11
              refine lv_aload_n K.1 K.2.1 dX7_tells_61 rfl (lv_at hl 1 rfl) ?_
              refine rc_get layX7 (ci := 7) rfl 0 (by decide) (v := .ref (ad 1)) K hw (wc_O cy nt ad _) kf_X7_10 rfl dX7_tells_62 ?_
              refine rc_get layX0 (ci := 0) rfl 4 (by decide) (v := .ref (ad 4)) K hw (wc_B cy nt ad _ ⟨by decide, by decide⟩) kf_X7_106 rfl dX7_tells_65 ?_
              refine lv_iload_n K.1 K.2.1 dX7_tells_68 rfl (lv_at hl 3 rfl) ?_
              have hb_12 := hd.1
              have hd := hd.2
              refine rc_aald (t0 := 2) (b := ad (pp 4 x2)) K hw (wc_R cy nt ad _ ⟨by decide, by decide⟩) rfl rfl hb_12 dX7_tells_69 ?_
              refine lv_astore (lv' := [(5, .ref (ad (pp 4 x2))), (4, .ref (ad (ss x1))), (0, .ref (ad 0)), (1, .int x1), (2, .int x2), (3, .int x3)]) K.1 K.2.1 dX7_tells_70 hl (by decide) rfl (fun ls hl => ?_)
              refine lv_iload_n K.1 K.2.1 dX7_tells_72 rfl (lv_at hl 5 rfl) ?_
              rcases Classical.em (x3 = (0 : Int32)) with h_14 | h_14
              · have hd := hd.1 h_14
                refine lv_tableIn (tgt := 116) K.1 K.2.1 dX7_tells_73 (by rw [h_14]; decide) (by rw [h_14]; decide) (off := 43) (by rw [h_14]; rfl) (by decide) ?_
                refine lv_aload_n K.1 K.2.1 dX7_tells_116 rfl (lv_at hl 2 rfl) ?_
                refine lv_aload K.1 K.2.1 dX7_tells_117 (lv_at hl 1 rfl) ?_
                refine lv_aload K.1 K.2.1 dX7_tells_119 (lv_at hl 0 rfl) ?_
                refine lv_aload_n K.1 K.2.1 dX7_tells_121 rfl (lv_at hl 2 rfl) ?_
                refine lv_aload_n K.1 K.2.1 dX7_tells_122 rfl (lv_at hl 2 rfl) ?_
                refine rc_get layX7 (ci := 7) rfl 0 (by decide) (v := .ref (ad 1)) K hw (wc_O cy nt ad _) kf_X7_10 rfl dX7_tells_123 ?_
                refine rc_get layX0 (ci := 0) rfl 1 (by decide) (v := .int (g_4 1 1)) K hw (wc_B cy nt ad _ ⟨by decide, by decide⟩) kf_X7_133 rfl dX7_tells_126 ?_
                refine rkc_vt (As := [.int (g_4 1 1)]) (rest := [.ref (ad (pp 4 x2)), .ref (ad (ss x1)), .ref (ad 0)]) K KX hw (cc_X7_textOf l D cy nt ad A X g_4 _ (g_4 1 1) hd) lk_X7_136 (ci := 7) rfl (wc_O cy nt ad _) ⟨Nat.le_of_ble_eq_true rfl, Nat.le_of_ble_eq_true rfl⟩ ⟨Nat.zero_le _, Nat.zero_le _⟩ rfl hl.1 (Nat.le_of_ble_eq_true rfl) rfl dX7_tells_129 (fun r_16 g_15 H locs hd hw => ?_)
                have hq_r_16 := hd.1
                have hd := hd.2
                refine rkc_vi (As := [.ref (ad (ss x1)), .ref (ad (pp 4 x2)), .ref (ad r_16)]) (rest := []) K KX hw (cc_X7_firstOtherwise l D cy nt ad A X g_15 _ (ss x1) (pp 4 x2) r_16 hd) lk_X7_251 (ci := 7) rfl (wc_O cy nt ad _) ⟨Nat.le_of_ble_eq_true rfl, Nat.le_of_ble_eq_true rfl⟩ ⟨Nat.zero_le _, Nat.zero_le _⟩ rfl hl.1 (Nat.le_of_ble_eq_true rfl) rfl dX7_tells_132 (fun r_18 g_17 H locs hd hw => ?_)
                exact rk_iret K hw hr hd dX7_tells_135
              rcases Classical.em (x3 = (1 : Int32)) with h_19 | h_19
              · have hd := hd.2.1 h_19
                refine lv_tableIn (tgt := 136) K.1 K.2.1 dX7_tells_73 (by rw [h_19]; decide) (by rw [h_19]; decide) (off := 63) (by rw [h_19]; rfl) (by decide) ?_
                refine lv_aload_n K.1 K.2.1 dX7_tells_136 rfl (lv_at hl 2 rfl) ?_
                refine lv_aload K.1 K.2.1 dX7_tells_137 (lv_at hl 1 rfl) ?_
                refine lv_aload K.1 K.2.1 dX7_tells_139 (lv_at hl 0 rfl) ?_
                refine lv_bipush (v := (7 : Int32)) K.1 K.2.1 dX7_tells_141 (by decide) ?_
                refine rkc_vi (As := [.ref (ad (ss x1)), .ref (ad (pp 4 x2)), .int (7 : Int32)]) (rest := []) K KX hw (cc_X7_guessedBits l D cy nt ad A X g_4 _ (ss x1) (pp 4 x2) (7 : Int32) hd) lk_X7_255 (ci := 7) rfl (wc_O cy nt ad _) ⟨Nat.le_of_ble_eq_true rfl, Nat.le_of_ble_eq_true rfl⟩ ⟨Nat.zero_le _, Nat.zero_le _⟩ rfl hl.1 (Nat.le_of_ble_eq_true rfl) rfl dX7_tells_143 (fun r_21 g_20 H locs hd hw => ?_)
                exact rk_iret K hw hr hd dX7_tells_146
              rcases Classical.em (x3 = (2 : Int32)) with h_22 | h_22
              · have hd := hd.2.2.1 h_22
                refine lv_tableIn (tgt := 147) K.1 K.2.1 dX7_tells_73 (by rw [h_22]; decide) (by rw [h_22]; decide) (off := 74) (by rw [h_22]; rfl) (by decide) ?_
                refine lv_aload_n K.1 K.2.1 dX7_tells_147 rfl (lv_at hl 2 rfl) ?_
                refine lv_aload K.1 K.2.1 dX7_tells_148 (lv_at hl 1 rfl) ?_
                refine lv_aload K.1 K.2.1 dX7_tells_150 (lv_at hl 0 rfl) ?_
                refine lv_iconst (v := (2 : Int32)) K.1 K.2.1 dX7_tells_152 (by decide) ?_
                refine rkc_vi (As := [.ref (ad (ss x1)), .ref (ad (pp 4 x2)), .int (2 : Int32)]) (rest := []) K KX hw (cc_X7_guessedBits l D cy nt ad A X g_4 _ (ss x1) (pp 4 x2) (2 : Int32) hd) lk_X7_255 (ci := 7) rfl (wc_O cy nt ad _) ⟨Nat.le_of_ble_eq_true rfl, Nat.le_of_ble_eq_true rfl⟩ ⟨Nat.zero_le _, Nat.zero_le _⟩ rfl hl.1 (Nat.le_of_ble_eq_true rfl) rfl dX7_tells_153 (fun r_24 g_23 H locs hd hw => ?_)
                exact rk_iret K hw hr hd dX7_tells_156
              rcases Classical.em (x3 = (3 : Int32)) with h_25 | h_25
              · have hd := hd.2.2.2.1 h_25
                refine lv_tableIn (tgt := 157) K.1 K.2.1 dX7_tells_73 (by rw [h_25]; decide) (by rw [h_25]; decide) (off := 84) (by rw [h_25]; rfl) (by decide) ?_
                refine lv_aload_n K.1 K.2.1 dX7_tells_157 rfl (lv_at hl 2 rfl) ?_
                refine lv_aload K.1 K.2.1 dX7_tells_158 (lv_at hl 1 rfl) ?_
                refine lv_aload K.1 K.2.1 dX7_tells_160 (lv_at hl 0 rfl) ?_
                refine lv_iconst (v := (3 : Int32)) K.1 K.2.1 dX7_tells_162 (by decide) ?_
                refine rkc_vi (As := [.ref (ad (ss x1)), .ref (ad (pp 4 x2)), .int (3 : Int32)]) (rest := []) K KX hw (cc_X7_guessedBits l D cy nt ad A X g_4 _ (ss x1) (pp 4 x2) (3 : Int32) hd) lk_X7_255 (ci := 7) rfl (wc_O cy nt ad _) ⟨Nat.le_of_ble_eq_true rfl, Nat.le_of_ble_eq_true rfl⟩ ⟨Nat.zero_le _, Nat.zero_le _⟩ rfl hl.1 (Nat.le_of_ble_eq_true rfl) rfl dX7_tells_163 (fun r_27 g_26 H locs hd hw => ?_)
                exact rk_iret K hw hr hd dX7_tells_166
              rcases Classical.em (x3 = (4 : Int32)) with h_28 | h_28
              · have hd := hd.2.2.2.2.1 h_28
                refine lv_tableIn (tgt := 167) K.1 K.2.1 dX7_tells_73 (by rw [h_28]; decide) (by rw [h_28]; decide) (off := 94) (by rw [h_28]; rfl) (by decide) ?_
                refine lv_aload_n K.1 K.2.1 dX7_tells_167 rfl (lv_at hl 2 rfl) ?_
                refine lv_aload K.1 K.2.1 dX7_tells_168 (lv_at hl 1 rfl) ?_
                refine lv_aload K.1 K.2.1 dX7_tells_170 (lv_at hl 0 rfl) ?_
                refine lv_iconst (v := (0 : Int32)) K.1 K.2.1 dX7_tells_172 (by decide) ?_
                refine rkc_vi (As := [.ref (ad (ss x1)), .ref (ad (pp 4 x2)), .int (0 : Int32)]) (rest := []) K KX hw (cc_X7_guessedCrumpled l D cy nt ad A X g_4 _ (ss x1) (pp 4 x2) (0 : Int32) hd) lk_X7_259 (ci := 7) rfl (wc_O cy nt ad _) ⟨Nat.le_of_ble_eq_true rfl, Nat.le_of_ble_eq_true rfl⟩ ⟨Nat.zero_le _, Nat.zero_le _⟩ rfl hl.1 (Nat.le_of_ble_eq_true rfl) rfl dX7_tells_173 (fun r_30 g_29 H locs hd hw => ?_)
                exact rk_iret K hw hr hd dX7_tells_176
              rcases Classical.em (x3 = (5 : Int32)) with h_31 | h_31
              · have hd := hd.2.2.2.2.2.1 h_31
                refine lv_tableIn (tgt := 177) K.1 K.2.1 dX7_tells_73 (by rw [h_31]; decide) (by rw [h_31]; decide) (off := 104) (by rw [h_31]; rfl) (by decide) ?_
                refine lv_aload_n K.1 K.2.1 dX7_tells_177 rfl (lv_at hl 2 rfl) ?_
                refine lv_aload K.1 K.2.1 dX7_tells_178 (lv_at hl 1 rfl) ?_
                refine lv_aload K.1 K.2.1 dX7_tells_180 (lv_at hl 0 rfl) ?_
                refine lv_iconst (v := (1 : Int32)) K.1 K.2.1 dX7_tells_182 (by decide) ?_
                refine rkc_vi (As := [.ref (ad (ss x1)), .ref (ad (pp 4 x2)), .int (1 : Int32)]) (rest := []) K KX hw (cc_X7_guessedCrumpled l D cy nt ad A X g_4 _ (ss x1) (pp 4 x2) (1 : Int32) hd) lk_X7_259 (ci := 7) rfl (wc_O cy nt ad _) ⟨Nat.le_of_ble_eq_true rfl, Nat.le_of_ble_eq_true rfl⟩ ⟨Nat.zero_le _, Nat.zero_le _⟩ rfl hl.1 (Nat.le_of_ble_eq_true rfl) rfl dX7_tells_183 (fun r_33 g_32 H locs hd hw => ?_)
                exact rk_iret K hw hr hd dX7_tells_186
              rcases Classical.em (x3 = (6 : Int32)) with h_34 | h_34
              · have hd := hd.2.2.2.2.2.2.1 h_34
                refine lv_tableIn (tgt := 187) K.1 K.2.1 dX7_tells_73 (by rw [h_34]; decide) (by rw [h_34]; decide) (off := 114) (by rw [h_34]; rfl) (by decide) ?_
                refine lv_aload_n K.1 K.2.1 dX7_tells_187 rfl (lv_at hl 2 rfl) ?_
                refine lv_aload K.1 K.2.1 dX7_tells_188 (lv_at hl 1 rfl) ?_
                refine lv_aload K.1 K.2.1 dX7_tells_190 (lv_at hl 0 rfl) ?_
                refine rkc_vi (As := [.ref (ad (ss x1)), .ref (ad (pp 4 x2))]) (rest := []) K KX hw (cc_X7_guessedTexts l D cy nt ad A X g_4 _ (ss x1) (pp 4 x2) hd) lk_X7_263 (ci := 7) rfl (wc_O cy nt ad _) ⟨Nat.le_of_ble_eq_true rfl, Nat.le_of_ble_eq_true rfl⟩ ⟨Nat.zero_le _, Nat.zero_le _⟩ rfl hl.1 (Nat.le_of_ble_eq_true rfl) rfl dX7_tells_192 (fun r_36 g_35 H locs hd hw => ?_)
                exact rk_iret K hw hr hd dX7_tells_195
              have hd := hd.2.2.2.2.2.2.2 h_14 h_19 h_22 h_25 h_28 h_31 h_34
              have qh_14 := lv_neT (k := (0 : Int32)) (a := 0) h_14 (by decide)
              have qh_19 := lv_neT (k := (1 : Int32)) (a := 1) h_19 (by decide)
              have qh_22 := lv_neT (k := (2 : Int32)) (a := 2) h_22 (by decide)
              have qh_25 := lv_neT (k := (3 : Int32)) (a := 3) h_25 (by decide)
              have qh_28 := lv_neT (k := (4 : Int32)) (a := 4) h_28 (by decide)
              have qh_31 := lv_neT (k := (5 : Int32)) (a := 5) h_31 (by decide)
              have qh_34 := lv_neT (k := (6 : Int32)) (a := 6) h_34 (by decide)
              refine lv_tableOut (tgt := 196) K.1 K.2.1 dX7_tells_73 (by omega) (by decide) ?_
              refine lv_aload_n K.1 K.2.1 dX7_tells_196 rfl (lv_at hl 2 rfl) ?_
              refine lv_aload K.1 K.2.1 dX7_tells_197 (lv_at hl 1 rfl) ?_
              refine rkc_vi (As := [.ref (ad (ss x1))]) (rest := []) K KX hw (cc_X7_guessedPapers l D cy nt ad A X g_4 _ (ss x1) hd) lk_X7_267 (ci := 7) rfl (wc_O cy nt ad _) ⟨Nat.le_of_ble_eq_true rfl, Nat.le_of_ble_eq_true rfl⟩ ⟨Nat.zero_le _, Nat.zero_le _⟩ rfl hl.1 (Nat.le_of_ble_eq_true rfl) rfl dX7_tells_199 (fun r_38 g_37 H locs hd hw => ?_)
              exact rk_iret K hw hr hd dX7_tells_202
            · have hd := hd.2 h_11
              refine lv_bipush (v := (-2 : Int32)) K.1 K.2.1 dX7_tells_58 (by decide) ?_
              exact rk_iret K hw hr hd dX7_tells_60
          · have hd := hd.2 h_10
            refine lv_bipush (v := (-11 : Int32)) K.1 K.2.1 dX7_tells_45 (by decide) ?_
            exact rk_iret K hw hr hd dX7_tells_47
        · have hd := hd.2 h_8
          refine lv_bipush (v := (-2 : Int32)) K.1 K.2.1 dX7_tells_25 (by decide) ?_
          exact rk_iret K hw hr hd dX7_tells_27
