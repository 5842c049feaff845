/-! ## the law's turns -/
section LAW
variable {p : Program} {l : Launch} {e : Env} {s : State} {m : MethodId} {args : Array Value} {below : List Frame} {meth : Method} {c : Code} {H : Heap} {locs : List Loc} {cells slots : Nat} {Q : State → Prop} {A : Nat → Prop} {G : va_G}
theorem z_sld {cc : ByteArray} {pc : Nat} {ls : Array Slot} {rest : List Value} (hexec : p.tables.exec = Jvm.exec) (hb : c.code = cc) {b L : Nat} {xs : Nat → Int32} {H0 : Heap} {R : Room} (hX : va_X b L xs s H0) (hbl : b < H0.size) (hbA : ¬ A b) (hL : L ≤ 2048) (hS : va_S A H0 H locs) {k : Nat} (hk : k < L) (hdg : decode cc pc = .ok (.iaload, 1))
    (kk : W p l e R s m args below meth c H locs cells slots Q (F0 m (pc + 1) ls (.int (xs k) :: rest))) : W p l e R s m args below meth c H locs cells slots Q (F0 m pc ls (.int (nI k) :: .ref b :: rest)) := by
  refine va_sld hexec hb hX hbl hbA hS (vp_in_nI hk (by omega)) hdg ?_
  rw [nI_clamp (by omega)]
  exact kk
theorem lgc_refl (x : Int64) : lg_cmp x x = 0 := by
  unfold lg_cmp
  rw [if_neg (by simp [Int64.lt_iff_toInt_lt]), if_pos rfl]
abbrev wl (cI cJ : ClassId) (o h da la sa h2 da2 la2 sa2 : Nat) (mo lo li si sh ss : Nat) (q : Nat) (came : Nat) (u t : WH) (n came2 : Nat) (c g : Int32) (lou D S shd shs : Fn) (th : Int32) (f : Nat → Int64) : va_W := wx cI o h da la sa h2 da2 la2 sa2 came u t ++ (wm cI mo lo li si sh ss n came2 c g lou D S shd shs th ++ wo cJ q f)
set_option maxHeartbeats 4000000 in
set_option maxRecDepth 100000 in
theorem k_come (hF : CallFix p m c cL_law 7 s args wsL_law RL) (hA : ∀ q, s.heap.size ≤ q → A q) (cI cJ : ClassId) (hK : va_K G vwCl [(cI, .int), (cJ, .long)] s) (hE : zEnv A s s.heap) {b L : Nat} {xs : Nat → Int32} (hX : va_X b L xs s s.heap) (hbl : b < s.heap.size) (hbA : ¬ A b) (hL : L ≤ 2048) (o h da la sa h2 da2 la2 sa2 mo lo li si sh ss q : Nat) {came came1 : Nat} {u t u1 t1 : WH} {n came2 n1 came3 : Nat} {c2 g2 c3 g3 : Int32} {lou D S shd shs lou1 D1 S1 shd1 shs1 : Fn} {th th1 : Int32} {f f1 : Nat → Int64} (hP : va_P G vwCl (wl cI cJ o h da la sa h2 da2 la2 sa2 mo lo li si sh ss q came u t n came2 c2 g2 lou D S shd shs th f) H) (hD : va_D A (wl cI cJ o h da la sa h2 da2 la2 sa2 mo lo li si sh ss q came u t n came2 c2 g2 lou D S shd shs th f)) (hS : va_S A s.heap H locs) (hc : cells + 1 ≤ 1052) (hs : slots + 6 ≤ 9420) {ls : Array Slot} {i : Nat} (hi : i + 4 ≤ L) (hl : lv_has ls 7 [(0, .ref b), (1, .ref o), (2, .ref mo), (3, .ref q), (4, .int (nI i))]) {k : Nat} (hk2 : k ≤ 2) {r : Int32} (hW : zY_i l yL_come wsL_come ({ frames := 8, cells := 1, slots := 6, locals := 200 }) G [(cI, .int), (cJ, .long)] (wx cI o h da la sa h2 da2 la2 sa2 came u t ++ wo cJ q f) (wx cI o h da la sa h2 da2 la2 sa2 came1 u1 t1 ++ wo cJ q f1) [.ref o, .int (xs (i + 1)), .ref q] 1 6 (nI k)) (hM : zC_i l yX2_come wsX2_come ({ frames := 3, cells := 0, slots := 0, locals := 68 }) G [(cI, .int)] (wm cI mo lo li si sh ss n came2 c2 g2 lou D S shd shs th) (wm cI mo lo li si sh ss n1 came3 c3 g3 lou1 D1 S1 shd1 shs1 (nI k)) [.ref mo, .int (xs (i + 1))] r) (hk0 : k = 0 → f1 0 = r.toInt64) (kk : ∀ (H : Heap) (locs : List Loc) (ls : Array Slot), va_P G vwCl (wl cI cJ o h da la sa h2 da2 la2 sa2 mo lo li si sh ss q came1 u1 t1 n1 came3 c3 g3 lou1 D1 S1 shd1 shs1 (nI k) f1) H → va_D A (wl cI cJ o h da la sa h2 da2 la2 sa2 mo lo li si sh ss q came1 u1 t1 n1 came3 c3 g3 lou1 D1 S1 shd1 shs1 (nI k) f1) → va_S A s.heap H locs → lv_has ls 7 [(0, .ref b), (1, .ref o), (2, .ref mo), (3, .ref q), (4, .int (nI i))] → W p l e room_1 s m args below meth c H locs (cells + 1) (slots + 6) Q (F0 m 927 ls [])) : W p l e room_1 s m args below meth c H locs cells slots Q (F0 m 128 ls []) := by
  obtain ⟨hx, hb, hml, hown, hts⟩ := id hF
  refine lv_aload_n hx hb dL_law_128 rfl (lv_at hl 1 rfl) ?_
  refine lv_aload_n hx hb dL_law_129 rfl (lv_at hl 0 rfl) ?_
  refine lv_iload hx hb dL_law_130 (lv_at hl 4 rfl) ?_
  refine lv_iconst (v := nI 1) hx hb dL_law_132 (by decide) ?_
  refine lv_iadd hx hb dL_law_133 ?_
  refine zN (nI (i + 1)) (nI_add i 1) ?_
  refine z_sld hx hb hX hbl hbA hL hS (by omega) dL_law_134 ?_
  refine lv_aload_n hx hb dL_law_135 rfl (lv_at hl 3 rfl) ?_
  refine zK_sw (av := [.ref o, .int (xs (i + 1)), .ref q]) (rest := []) hF hW (vx_cwSW 3 hts gL_law_L_come rfl rfl rfl (by decide +kernel) ⟨(Nat.le_of_ble_eq_true rfl), (Nat.le_of_ble_eq_true rfl)⟩) hK hP hD hS hA hE (isC := [0, 1, 2, 3, 4, 5, 6, 7, 8, 15]) (isR := [9, 10, 11, 12, 13, 14]) (perm := [6, 7, 8, 9, 10, 11, 12, 13, 14, 0, 1, 2, 3, 4, 5, 15]) (wr := wm cI mo lo li si sh ss n came2 c2 g2 lou D S shd shs th) (wN := wl cI cJ o h da la sa h2 da2 la2 sa2 mo lo li si sh ss q came1 u1 t1 n came2 c2 g2 lou D S shd shs th f1) ⟨rfl, by decide, rfl, by decide, by decide, rfl, by decide⟩ [0, 1] rfl rfl hl.1 rfl (Nat.le_of_ble_eq_true rfl) dL_law_136 ⟨hc, hs⟩ (fun H locs hP hD hS => ?_)
  refine lv_istore (lv' := [(5, .int (nI k)), (0, .ref b), (1, .ref o), (2, .ref mo), (3, .ref q), (4, .int (nI i))]) hx hb dL_law_139 hl (by decide) rfl (fun ls hl => ?_)
  refine lv_aload_n hx hb dL_law_141 rfl (lv_at hl 3 rfl) ?_
  refine lv_aload_n hx hb dL_law_142 rfl (lv_at hl 1 rfl) ?_
  refine lv_iload hx hb dL_law_143 (lv_at hl 5 rfl) ?_
  refine lv_iconst (v := nI 1) hx hb dL_law_145 (by decide) ?_
  refine lv_iadd hx hb dL_law_146 ?_
  refine zN (nI (i + 1)) (nI_add i 1) ?_
  refine z_sld hx hb hX hbl hbA hL hS (by omega) dL_law_147 ?_
  refine zK_vi (As := [.int (xs (i + 1))]) (rest := []) hF hM (cwV 1 hts gL_law_X2_come rfl rfl rfl (by decide +kernel) ⟨(Nat.le_of_ble_eq_true rfl), (Nat.le_of_ble_eq_true rfl)⟩) hK hP hD hS hA (ci := 2) (q0 := 9) rfl rfl rfl (isC := [9, 10, 11, 12, 13, 14]) (isR := [0, 1, 2, 3, 4, 5, 6, 7, 8, 15]) (perm := [0, 1, 2, 3, 4, 5, 6, 7, 8, 10, 11, 12, 13, 14, 15, 9]) (wr := wx cI o h da la sa h2 da2 la2 sa2 came1 u1 t1 ++ wo cJ q f1) (wN := wl cI cJ o h da la sa h2 da2 la2 sa2 mo lo li si sh ss q came1 u1 t1 n1 came3 c3 g3 lou1 D1 S1 shd1 shs1 (nI k) f1) ⟨rfl, by decide, rfl, by decide, by decide, rfl, by decide⟩ [0] rfl rfl hl.1 rfl (Nat.le_of_ble_eq_true rfl) dL_law_148 ⟨(show cells + 1 + 0 ≤ 1052 by omega), (show slots + 6 + 0 ≤ 9420 by omega)⟩ (fun H locs hP hD hS => ?_)
  refine lv_istore (lv' := [(6, .int r), (5, .int (nI k)), (0, .ref b), (1, .ref o), (2, .ref mo), (3, .ref q), (4, .int (nI i))]) hx hb dL_law_151 hl (by decide) rfl (fun ls hl => ?_)
  refine lv_aload_n hx hb dL_law_153 rfl (lv_at hl 4 rfl) ?_
  refine zK_vi (As := []) (rest := []) hF (m_thrown l G cI mo lo li si sh ss n1 came3 c3 g3 lou1 D1 S1 shd1 shs1 (nI k)) (cwV 0 hts gL_law_X2_thrown rfl rfl rfl (by decide +kernel) ⟨(Nat.le_of_ble_eq_true rfl), (Nat.le_of_ble_eq_true rfl)⟩) hK hP hD hS hA (ci := 2) (q0 := 9) rfl rfl rfl (isC := [9, 10, 11, 12, 13, 14]) (isR := [0, 1, 2, 3, 4, 5, 6, 7, 8, 15]) (perm := [0, 1, 2, 3, 4, 5, 6, 7, 8, 10, 11, 12, 13, 14, 15, 9]) (wr := wx cI o h da la sa h2 da2 la2 sa2 came1 u1 t1 ++ wo cJ q f1) (wN := wl cI cJ o h da la sa h2 da2 la2 sa2 mo lo li si sh ss q came1 u1 t1 n1 came3 c3 g3 lou1 D1 S1 shd1 shs1 (nI k) f1) ⟨rfl, by decide, rfl, by decide, by decide, rfl, by decide⟩ [0] rfl rfl hl.1 rfl (Nat.le_of_ble_eq_true rfl) dL_law_154 ⟨(show cells + 1 + 0 ≤ 1052 by omega), (show slots + 6 + 0 ≤ 9420 by omega)⟩ (fun H locs hP hD hS => ?_)
  refine lv_iload hx hb dL_law_157 (lv_at hl 1 rfl) ?_
  refine lv_icmp_eq (tgt := 164) hx hb dL_law_159 (by decide) (fun hc9 => ?_) (fun hc9 => absurd rfl hc9)
  have hl9 := lv_sub hl [2, 3, 4, 5, 6] (l' := [(0, .ref b), (1, .ref o), (2, .ref mo), (3, .ref q), (4, .int (nI i))]) rfl
  refine lv_iload hx hb dL_law_164 (lv_at hl 1 rfl) ?_
  refine lv_if_ne (tgt := 181) hx hb dL_law_166 (by decide) (fun hc8 => ?_) (fun hc8 => ?_)
  · refine lv_goto (tgt := 927) hx hb dL_law_181 (by decide) ?_
    exact kk H locs ls hP hD hS hl9
  have hk := k0_eq (a := k) (by omega) hc8
  refine lv_aload_n hx hb dL_law_169 rfl (lv_at hl 5 rfl) ?_
  refine lv_iconst (v := 0) hx hb dL_law_170 (by decide) ?_
  refine va_lald (f := f1) (n := 1) (cA := cJ) hx hb hK hP 15 1 rfl rfl (by unfold vp_in; decide) dL_law_171 ?_
  refine lv_iload hx hb dL_law_172 (lv_at hl 0 rfl) ?_
  refine lv_i2l hx hb dL_law_174 rfl ?_
  refine W.lcmp hx hb dL_law_175 ?_
  have hq : lg_cmp (f1 (0 : Int32).toNatClampNeg) r.toInt64 = 0 := by rw [show (0 : Int32).toNatClampNeg = 0 from rfl, hk0 hk]; exact lgc_refl _
  refine lv_if_eq (tgt := 181) hx hb dL_law_176 (by decide) (fun hc9 => ?_) (fun hc9 => absurd hq hc9)
  refine lv_goto (tgt := 927) hx hb dL_law_181 (by decide) ?_
  exact kk H locs ls hP hD hS hl9
set_option maxHeartbeats 4000000 in
set_option maxRecDepth 100000 in
theorem k_coach (hF : CallFix p m c cL_law 7 s args wsL_law RL) (hA : ∀ q, s.heap.size ≤ q → A q) (cI cJ : ClassId) (hK : va_K G vwCl [(cI, .int), (cJ, .long)] s) (hE : zEnv A s s.heap) {b L : Nat} {xs : Nat → Int32} (hX : va_X b L xs s s.heap) (hbl : b < s.heap.size) (hbA : ¬ A b) (hL : L ≤ 2048) (o h da la sa h2 da2 la2 sa2 mo lo li si sh ss q : Nat) {came came1 : Nat} {u t u1 t1 : WH} {n came2 n1 came3 : Nat} {c2 g2 c3 g3 : Int32} {lou D S shd shs lou1 D1 S1 shd1 shs1 : Fn} {th th1 : Int32} {f f1 : Nat → Int64} (hP : va_P G vwCl (wl cI cJ o h da la sa h2 da2 la2 sa2 mo lo li si sh ss q came u t n came2 c2 g2 lou D S shd shs th f) H) (hD : va_D A (wl cI cJ o h da la sa h2 da2 la2 sa2 mo lo li si sh ss q came u t n came2 c2 g2 lou D S shd shs th f)) (hS : va_S A s.heap H locs) (hc : cells + 1 ≤ 1052) (hs : slots + 6 ≤ 9420) {ls : Array Slot} {i : Nat} (hi : i + 4 ≤ L) (hl : lv_has ls 7 [(0, .ref b), (1, .ref o), (2, .ref mo), (3, .ref q), (4, .int (nI i))]) {k : Nat} (hk2 : k ≤ 2) {r : Int32} (hW : zY_i l yL_coach wsL_coach ({ frames := 8, cells := 1, slots := 6, locals := 200 }) G [(cI, .int), (cJ, .long)] (wx cI o h da la sa h2 da2 la2 sa2 came u t ++ wo cJ q f) (wx cI o h da la sa h2 da2 la2 sa2 came1 u1 t1 ++ wo cJ q f1) [.ref o, .int (xs (i + 1)), .int (xs (i + 2)), .int (xs (i + 3)), .ref q] 1 6 (nI k)) (hM : zC_i l yX2_coach wsX2_coach ({ frames := 2, cells := 0, slots := 0, locals := 43 }) G [(cI, .int)] (wm cI mo lo li si sh ss n came2 c2 g2 lou D S shd shs th) (wm cI mo lo li si sh ss n1 came3 c3 g3 lou1 D1 S1 shd1 shs1 (nI k)) [.ref mo, .int (xs (i + 1)), .int (xs (i + 2)), .int (xs (i + 3))] r) (hk0 : k = 0 → f1 0 = r.toInt64) (kk : ∀ (H : Heap) (locs : List Loc) (ls : Array Slot), va_P G vwCl (wl cI cJ o h da la sa h2 da2 la2 sa2 mo lo li si sh ss q came1 u1 t1 n1 came3 c3 g3 lou1 D1 S1 shd1 shs1 (nI k) f1) H → va_D A (wl cI cJ o h da la sa h2 da2 la2 sa2 mo lo li si sh ss q came1 u1 t1 n1 came3 c3 g3 lou1 D1 S1 shd1 shs1 (nI k) f1) → va_S A s.heap H locs → lv_has ls 7 [(0, .ref b), (1, .ref o), (2, .ref mo), (3, .ref q), (4, .int (nI i))] → W p l e room_1 s m args below meth c H locs (cells + 1) (slots + 6) Q (F0 m 927 ls [])) : W p l e room_1 s m args below meth c H locs cells slots Q (F0 m 184 ls []) := by
  obtain ⟨hx, hb, hml, hown, hts⟩ := id hF
  refine lv_aload_n hx hb dL_law_184 rfl (lv_at hl 1 rfl) ?_
  refine lv_aload_n hx hb dL_law_185 rfl (lv_at hl 0 rfl) ?_
  refine lv_iload hx hb dL_law_186 (lv_at hl 4 rfl) ?_
  refine lv_iconst (v := nI 1) hx hb dL_law_188 (by decide) ?_
  refine lv_iadd hx hb dL_law_189 ?_
  refine zN (nI (i + 1)) (nI_add i 1) ?_
  refine z_sld hx hb hX hbl hbA hL hS (by omega) dL_law_190 ?_
  refine lv_aload_n hx hb dL_law_191 rfl (lv_at hl 0 rfl) ?_
  refine lv_iload hx hb dL_law_192 (lv_at hl 4 rfl) ?_
  refine lv_iconst (v := nI 2) hx hb dL_law_194 (by decide) ?_
  refine lv_iadd hx hb dL_law_195 ?_
  refine zN (nI (i + 2)) (nI_add i 2) ?_
  refine z_sld hx hb hX hbl hbA hL hS (by omega) dL_law_196 ?_
  refine lv_aload_n hx hb dL_law_197 rfl (lv_at hl 0 rfl) ?_
  refine lv_iload hx hb dL_law_198 (lv_at hl 4 rfl) ?_
  refine lv_iconst (v := nI 3) hx hb dL_law_200 (by decide) ?_
  refine lv_iadd hx hb dL_law_201 ?_
  refine zN (nI (i + 3)) (nI_add i 3) ?_
  refine z_sld hx hb hX hbl hbA hL hS (by omega) dL_law_202 ?_
  refine lv_aload_n hx hb dL_law_203 rfl (lv_at hl 3 rfl) ?_
  refine zK_sw (av := [.ref o, .int (xs (i + 1)), .int (xs (i + 2)), .int (xs (i + 3)), .ref q]) (rest := []) hF hW (vx_cwSW 5 hts gL_law_L_coach rfl rfl rfl (by decide +kernel) ⟨(Nat.le_of_ble_eq_true rfl), (Nat.le_of_ble_eq_true rfl)⟩) hK hP hD hS hA hE (isC := [0, 1, 2, 3, 4, 5, 6, 7, 8, 15]) (isR := [9, 10, 11, 12, 13, 14]) (perm := [6, 7, 8, 9, 10, 11, 12, 13, 14, 0, 1, 2, 3, 4, 5, 15]) (wr := wm cI mo lo li si sh ss n came2 c2 g2 lou D S shd shs th) (wN := wl cI cJ o h da la sa h2 da2 la2 sa2 mo lo li si sh ss q came1 u1 t1 n came2 c2 g2 lou D S shd shs th f1) ⟨rfl, by decide, rfl, by decide, by decide, rfl, by decide⟩ [0, 1] rfl rfl hl.1 rfl (Nat.le_of_ble_eq_true rfl) dL_law_204 ⟨hc, hs⟩ (fun H locs hP hD hS => ?_)
  refine lv_istore (lv' := [(5, .int (nI k)), (0, .ref b), (1, .ref o), (2, .ref mo), (3, .ref q), (4, .int (nI i))]) hx hb dL_law_207 hl (by decide) rfl (fun ls hl => ?_)
  refine lv_aload_n hx hb dL_law_209 rfl (lv_at hl 3 rfl) ?_
  refine lv_aload_n hx hb dL_law_210 rfl (lv_at hl 1 rfl) ?_
  refine lv_iload hx hb dL_law_211 (lv_at hl 5 rfl) ?_
  refine lv_iconst (v := nI 1) hx hb dL_law_213 (by decide) ?_
  refine lv_iadd hx hb dL_law_214 ?_
  refine zN (nI (i + 1)) (nI_add i 1) ?_
  refine z_sld hx hb hX hbl hbA hL hS (by omega) dL_law_215 ?_
  refine lv_aload_n hx hb dL_law_216 rfl (lv_at hl 1 rfl) ?_
  refine lv_iload hx hb dL_law_217 (lv_at hl 5 rfl) ?_
  refine lv_iconst (v := nI 2) hx hb dL_law_219 (by decide) ?_
  refine lv_iadd hx hb dL_law_220 ?_
  refine zN (nI (i + 2)) (nI_add i 2) ?_
  refine z_sld hx hb hX hbl hbA hL hS (by omega) dL_law_221 ?_
  refine lv_aload_n hx hb dL_law_222 rfl (lv_at hl 1 rfl) ?_
  refine lv_iload hx hb dL_law_223 (lv_at hl 5 rfl) ?_
  refine lv_iconst (v := nI 3) hx hb dL_law_225 (by decide) ?_
  refine lv_iadd hx hb dL_law_226 ?_
  refine zN (nI (i + 3)) (nI_add i 3) ?_
  refine z_sld hx hb hX hbl hbA hL hS (by omega) dL_law_227 ?_
  refine zK_vi (As := [.int (xs (i + 1)), .int (xs (i + 2)), .int (xs (i + 3))]) (rest := []) hF hM (cwV 3 hts gL_law_X2_coach rfl rfl rfl (by decide +kernel) ⟨(Nat.le_of_ble_eq_true rfl), (Nat.le_of_ble_eq_true rfl)⟩) hK hP hD hS hA (ci := 2) (q0 := 9) rfl rfl rfl (isC := [9, 10, 11, 12, 13, 14]) (isR := [0, 1, 2, 3, 4, 5, 6, 7, 8, 15]) (perm := [0, 1, 2, 3, 4, 5, 6, 7, 8, 10, 11, 12, 13, 14, 15, 9]) (wr := wx cI o h da la sa h2 da2 la2 sa2 came1 u1 t1 ++ wo cJ q f1) (wN := wl cI cJ o h da la sa h2 da2 la2 sa2 mo lo li si sh ss q came1 u1 t1 n1 came3 c3 g3 lou1 D1 S1 shd1 shs1 (nI k) f1) ⟨rfl, by decide, rfl, by decide, by decide, rfl, by decide⟩ [0] rfl rfl hl.1 rfl (Nat.le_of_ble_eq_true rfl) dL_law_228 ⟨(show cells + 1 + 0 ≤ 1052 by omega), (show slots + 6 + 0 ≤ 9420 by omega)⟩ (fun H locs hP hD hS => ?_)
  refine lv_istore (lv' := [(6, .int r), (5, .int (nI k)), (0, .ref b), (1, .ref o), (2, .ref mo), (3, .ref q), (4, .int (nI i))]) hx hb dL_law_231 hl (by decide) rfl (fun ls hl => ?_)
  refine lv_aload_n hx hb dL_law_233 rfl (lv_at hl 4 rfl) ?_
  refine zK_vi (As := []) (rest := []) hF (m_thrown l G cI mo lo li si sh ss n1 came3 c3 g3 lou1 D1 S1 shd1 shs1 (nI k)) (cwV 0 hts gL_law_X2_thrown rfl rfl rfl (by decide +kernel) ⟨(Nat.le_of_ble_eq_true rfl), (Nat.le_of_ble_eq_true rfl)⟩) hK hP hD hS hA (ci := 2) (q0 := 9) rfl rfl rfl (isC := [9, 10, 11, 12, 13, 14]) (isR := [0, 1, 2, 3, 4, 5, 6, 7, 8, 15]) (perm := [0, 1, 2, 3, 4, 5, 6, 7, 8, 10, 11, 12, 13, 14, 15, 9]) (wr := wx cI o h da la sa h2 da2 la2 sa2 came1 u1 t1 ++ wo cJ q f1) (wN := wl cI cJ o h da la sa h2 da2 la2 sa2 mo lo li si sh ss q came1 u1 t1 n1 came3 c3 g3 lou1 D1 S1 shd1 shs1 (nI k) f1) ⟨rfl, by decide, rfl, by decide, by decide, rfl, by decide⟩ [0] rfl rfl hl.1 rfl (Nat.le_of_ble_eq_true rfl) dL_law_234 ⟨(show cells + 1 + 0 ≤ 1052 by omega), (show slots + 6 + 0 ≤ 9420 by omega)⟩ (fun H locs hP hD hS => ?_)
  refine lv_iload hx hb dL_law_237 (lv_at hl 1 rfl) ?_
  refine lv_icmp_eq (tgt := 244) hx hb dL_law_239 (by decide) (fun hc9 => ?_) (fun hc9 => absurd rfl hc9)
  have hl9 := lv_sub hl [2, 3, 4, 5, 6] (l' := [(0, .ref b), (1, .ref o), (2, .ref mo), (3, .ref q), (4, .int (nI i))]) rfl
  refine lv_iload hx hb dL_law_244 (lv_at hl 1 rfl) ?_
  refine lv_if_ne (tgt := 261) hx hb dL_law_246 (by decide) (fun hc8 => ?_) (fun hc8 => ?_)
  · refine lv_goto (tgt := 927) hx hb dL_law_261 (by decide) ?_
    exact kk H locs ls hP hD hS hl9
  have hk := k0_eq (a := k) (by omega) hc8
  refine lv_aload_n hx hb dL_law_249 rfl (lv_at hl 5 rfl) ?_
  refine lv_iconst (v := 0) hx hb dL_law_250 (by decide) ?_
  refine va_lald (f := f1) (n := 1) (cA := cJ) hx hb hK hP 15 1 rfl rfl (by unfold vp_in; decide) dL_law_251 ?_
  refine lv_iload hx hb dL_law_252 (lv_at hl 0 rfl) ?_
  refine lv_i2l hx hb dL_law_254 rfl ?_
  refine W.lcmp hx hb dL_law_255 ?_
  have hq : lg_cmp (f1 (0 : Int32).toNatClampNeg) r.toInt64 = 0 := by rw [show (0 : Int32).toNatClampNeg = 0 from rfl, hk0 hk]; exact lgc_refl _
  refine lv_if_eq (tgt := 261) hx hb dL_law_256 (by decide) (fun hc9 => ?_) (fun hc9 => absurd hq hc9)
  refine lv_goto (tgt := 927) hx hb dL_law_261 (by decide) ?_
  exact kk H locs ls hP hD hS hl9
set_option maxHeartbeats 4000000 in
set_option maxRecDepth 100000 in
theorem k_leave (hF : CallFix p m c cL_law 7 s args wsL_law RL) (hA : ∀ q, s.heap.size ≤ q → A q) (cI cJ : ClassId) (hK : va_K G vwCl [(cI, .int), (cJ, .long)] s) (hE : zEnv A s s.heap) {b L : Nat} {xs : Nat → Int32} (hX : va_X b L xs s s.heap) (hbl : b < s.heap.size) (hbA : ¬ A b) (hL : L ≤ 2048) (o h da la sa h2 da2 la2 sa2 mo lo li si sh ss q : Nat) {came came1 : Nat} {u t u1 t1 : WH} {n came2 n1 came3 : Nat} {c2 g2 c3 g3 : Int32} {lou D S shd shs lou1 D1 S1 shd1 shs1 : Fn} {th th1 : Int32} {f f1 : Nat → Int64} (hP : va_P G vwCl (wl cI cJ o h da la sa h2 da2 la2 sa2 mo lo li si sh ss q came u t n came2 c2 g2 lou D S shd shs th f) H) (hD : va_D A (wl cI cJ o h da la sa h2 da2 la2 sa2 mo lo li si sh ss q came u t n came2 c2 g2 lou D S shd shs th f)) (hS : va_S A s.heap H locs) (hc : cells + 1 ≤ 1052) (hs : slots + 6 ≤ 9420) {ls : Array Slot} {i : Nat} (hi : i + 4 ≤ L) (hl : lv_has ls 7 [(0, .ref b), (1, .ref o), (2, .ref mo), (3, .ref q), (4, .int (nI i))]) {k : Nat} (hk2 : k ≤ 2) {r : Int32} (hW : zY_i l yL_leave wsL_leave ({ frames := 8, cells := 1, slots := 6, locals := 200 }) G [(cI, .int), (cJ, .long)] (wx cI o h da la sa h2 da2 la2 sa2 came u t ++ wo cJ q f) (wx cI o h da la sa h2 da2 la2 sa2 came1 u1 t1 ++ wo cJ q f1) [.ref o, .ref q] 1 6 (nI k)) (hM : zC_i l yX2_leave wsX2_leave ({ frames := 2, cells := 0, slots := 0, locals := 48 }) G [(cI, .int)] (wm cI mo lo li si sh ss n came2 c2 g2 lou D S shd shs th) (wm cI mo lo li si sh ss n1 came3 c3 g3 lou1 D1 S1 shd1 shs1 (nI k)) [.ref mo] r) (hk0 : k = 0 → f1 0 = r.toInt64) (kk : ∀ (H : Heap) (locs : List Loc) (ls : Array Slot), va_P G vwCl (wl cI cJ o h da la sa h2 da2 la2 sa2 mo lo li si sh ss q came1 u1 t1 n1 came3 c3 g3 lou1 D1 S1 shd1 shs1 (nI k) f1) H → va_D A (wl cI cJ o h da la sa h2 da2 la2 sa2 mo lo li si sh ss q came1 u1 t1 n1 came3 c3 g3 lou1 D1 S1 shd1 shs1 (nI k) f1) → va_S A s.heap H locs → lv_has ls 7 [(0, .ref b), (1, .ref o), (2, .ref mo), (3, .ref q), (4, .int (nI i))] → W p l e room_1 s m args below meth c H locs (cells + 1) (slots + 6) Q (F0 m 927 ls [])) : W p l e room_1 s m args below meth c H locs cells slots Q (F0 m 264 ls []) := by
  obtain ⟨hx, hb, hml, hown, hts⟩ := id hF
  refine lv_aload_n hx hb dL_law_264 rfl (lv_at hl 1 rfl) ?_
  refine lv_aload_n hx hb dL_law_265 rfl (lv_at hl 3 rfl) ?_
  refine zK_sw (av := [.ref o, .ref q]) (rest := []) hF hW (vx_cwSW 2 hts gL_law_L_leave rfl rfl rfl (by decide +kernel) ⟨(Nat.le_of_ble_eq_true rfl), (Nat.le_of_ble_eq_true rfl)⟩) hK hP hD hS hA hE (isC := [0, 1, 2, 3, 4, 5, 6, 7, 8, 15]) (isR := [9, 10, 11, 12, 13, 14]) (perm := [6, 7, 8, 9, 10, 11, 12, 13, 14, 0, 1, 2, 3, 4, 5, 15]) (wr := wm cI mo lo li si sh ss n came2 c2 g2 lou D S shd shs th) (wN := wl cI cJ o h da la sa h2 da2 la2 sa2 mo lo li si sh ss q came1 u1 t1 n came2 c2 g2 lou D S shd shs th f1) ⟨rfl, by decide, rfl, by decide, by decide, rfl, by decide⟩ [0, 1] rfl rfl hl.1 rfl (Nat.le_of_ble_eq_true rfl) dL_law_266 ⟨hc, hs⟩ (fun H locs hP hD hS => ?_)
  refine lv_istore (lv' := [(5, .int (nI k)), (0, .ref b), (1, .ref o), (2, .ref mo), (3, .ref q), (4, .int (nI i))]) hx hb dL_law_269 hl (by decide) rfl (fun ls hl => ?_)
  refine lv_aload_n hx hb dL_law_271 rfl (lv_at hl 3 rfl) ?_
  refine zK_vi (As := []) (rest := []) hF hM (cwV 0 hts gL_law_X2_leave rfl rfl rfl (by decide +kernel) ⟨(Nat.le_of_ble_eq_true rfl), (Nat.le_of_ble_eq_true rfl)⟩) hK hP hD hS hA (ci := 2) (q0 := 9) rfl rfl rfl (isC := [9, 10, 11, 12, 13, 14]) (isR := [0, 1, 2, 3, 4, 5, 6, 7, 8, 15]) (perm := [0, 1, 2, 3, 4, 5, 6, 7, 8, 10, 11, 12, 13, 14, 15, 9]) (wr := wx cI o h da la sa h2 da2 la2 sa2 came1 u1 t1 ++ wo cJ q f1) (wN := wl cI cJ o h da la sa h2 da2 la2 sa2 mo lo li si sh ss q came1 u1 t1 n1 came3 c3 g3 lou1 D1 S1 shd1 shs1 (nI k) f1) ⟨rfl, by decide, rfl, by decide, by decide, rfl, by decide⟩ [0] rfl rfl hl.1 rfl (Nat.le_of_ble_eq_true rfl) dL_law_272 ⟨(show cells + 1 + 0 ≤ 1052 by omega), (show slots + 6 + 0 ≤ 9420 by omega)⟩ (fun H locs hP hD hS => ?_)
  refine lv_istore (lv' := [(6, .int r), (5, .int (nI k)), (0, .ref b), (1, .ref o), (2, .ref mo), (3, .ref q), (4, .int (nI i))]) hx hb dL_law_275 hl (by decide) rfl (fun ls hl => ?_)
  refine lv_aload_n hx hb dL_law_277 rfl (lv_at hl 4 rfl) ?_
  refine zK_vi (As := []) (rest := []) hF (m_thrown l G cI mo lo li si sh ss n1 came3 c3 g3 lou1 D1 S1 shd1 shs1 (nI k)) (cwV 0 hts gL_law_X2_thrown rfl rfl rfl (by decide +kernel) ⟨(Nat.le_of_ble_eq_true rfl), (Nat.le_of_ble_eq_true rfl)⟩) hK hP hD hS hA (ci := 2) (q0 := 9) rfl rfl rfl (isC := [9, 10, 11, 12, 13, 14]) (isR := [0, 1, 2, 3, 4, 5, 6, 7, 8, 15]) (perm := [0, 1, 2, 3, 4, 5, 6, 7, 8, 10, 11, 12, 13, 14, 15, 9]) (wr := wx cI o h da la sa h2 da2 la2 sa2 came1 u1 t1 ++ wo cJ q f1) (wN := wl cI cJ o h da la sa h2 da2 la2 sa2 mo lo li si sh ss q came1 u1 t1 n1 came3 c3 g3 lou1 D1 S1 shd1 shs1 (nI k) f1) ⟨rfl, by decide, rfl, by decide, by decide, rfl, by decide⟩ [0] rfl rfl hl.1 rfl (Nat.le_of_ble_eq_true rfl) dL_law_278 ⟨(show cells + 1 + 0 ≤ 1052 by omega), (show slots + 6 + 0 ≤ 9420 by omega)⟩ (fun H locs hP hD hS => ?_)
  refine lv_iload hx hb dL_law_281 (lv_at hl 1 rfl) ?_
  refine lv_icmp_eq (tgt := 288) hx hb dL_law_283 (by decide) (fun hc9 => ?_) (fun hc9 => absurd rfl hc9)
  have hl9 := lv_sub hl [2, 3, 4, 5, 6] (l' := [(0, .ref b), (1, .ref o), (2, .ref mo), (3, .ref q), (4, .int (nI i))]) rfl
  refine lv_iload hx hb dL_law_288 (lv_at hl 1 rfl) ?_
  refine lv_if_ne (tgt := 305) hx hb dL_law_290 (by decide) (fun hc8 => ?_) (fun hc8 => ?_)
  · refine lv_goto (tgt := 927) hx hb dL_law_305 (by decide) ?_
    exact kk H locs ls hP hD hS hl9
  have hk := k0_eq (a := k) (by omega) hc8
  refine lv_aload_n hx hb dL_law_293 rfl (lv_at hl 5 rfl) ?_
  refine lv_iconst (v := 0) hx hb dL_law_294 (by decide) ?_
  refine va_lald (f := f1) (n := 1) (cA := cJ) hx hb hK hP 15 1 rfl rfl (by unfold vp_in; decide) dL_law_295 ?_
  refine lv_iload hx hb dL_law_296 (lv_at hl 0 rfl) ?_
  refine lv_i2l hx hb dL_law_298 rfl ?_
  refine W.lcmp hx hb dL_law_299 ?_
  have hq : lg_cmp (f1 (0 : Int32).toNatClampNeg) r.toInt64 = 0 := by rw [show (0 : Int32).toNatClampNeg = 0 from rfl, hk0 hk]; exact lgc_refl _
  refine lv_if_eq (tgt := 305) hx hb dL_law_300 (by decide) (fun hc9 => ?_) (fun hc9 => absurd hq hc9)
  refine lv_goto (tgt := 927) hx hb dL_law_305 (by decide) ?_
  exact kk H locs ls hP hD hS hl9
set_option maxHeartbeats 4000000 in
set_option maxRecDepth 100000 in
theorem k_hush (hF : CallFix p m c cL_law 7 s args wsL_law RL) (hA : ∀ q, s.heap.size ≤ q → A q) (cI cJ : ClassId) (hK : va_K G vwCl [(cI, .int), (cJ, .long)] s) (hE : zEnv A s s.heap) {b L : Nat} {xs : Nat → Int32} (hX : va_X b L xs s s.heap) (hbl : b < s.heap.size) (hbA : ¬ A b) (hL : L ≤ 2048) (o h da la sa h2 da2 la2 sa2 mo lo li si sh ss q : Nat) {came came1 : Nat} {u t u1 t1 : WH} {n came2 n1 came3 : Nat} {c2 g2 c3 g3 : Int32} {lou D S shd shs lou1 D1 S1 shd1 shs1 : Fn} {th th1 : Int32} {f f1 : Nat → Int64} (hP : va_P G vwCl (wl cI cJ o h da la sa h2 da2 la2 sa2 mo lo li si sh ss q came u t n came2 c2 g2 lou D S shd shs th f) H) (hD : va_D A (wl cI cJ o h da la sa h2 da2 la2 sa2 mo lo li si sh ss q came u t n came2 c2 g2 lou D S shd shs th f)) (hS : va_S A s.heap H locs) (hc : cells + 1 ≤ 1052) (hs : slots + 6 ≤ 9420) {ls : Array Slot} {i : Nat} (hi : i + 4 ≤ L) (hl : lv_has ls 7 [(0, .ref b), (1, .ref o), (2, .ref mo), (3, .ref q), (4, .int (nI i))]) {k : Nat} (hk2 : k ≤ 2) {r : Int32} (hW : zY_i l yL_hush wsL_hush ({ frames := 8, cells := 1, slots := 6, locals := 200 }) G [(cI, .int), (cJ, .long)] (wx cI o h da la sa h2 da2 la2 sa2 came u t ++ wo cJ q f) (wx cI o h da la sa h2 da2 la2 sa2 came1 u1 t1 ++ wo cJ q f1) [.ref o, .int (xs (i + 1)), .int (xs (i + 2)), .ref q] 1 6 (nI k)) (hM : zC_i l yX2_hush wsX2_hush ({ frames := 3, cells := 0, slots := 0, locals := 68 }) G [(cI, .int)] (wm cI mo lo li si sh ss n came2 c2 g2 lou D S shd shs th) (wm cI mo lo li si sh ss n1 came3 c3 g3 lou1 D1 S1 shd1 shs1 (nI k)) [.ref mo, .int (xs (i + 1)), .int (xs (i + 2))] r) (hk0 : k = 0 → f1 0 = r.toInt64) (kk : ∀ (H : Heap) (locs : List Loc) (ls : Array Slot), va_P G vwCl (wl cI cJ o h da la sa h2 da2 la2 sa2 mo lo li si sh ss q came1 u1 t1 n1 came3 c3 g3 lou1 D1 S1 shd1 shs1 (nI k) f1) H → va_D A (wl cI cJ o h da la sa h2 da2 la2 sa2 mo lo li si sh ss q came1 u1 t1 n1 came3 c3 g3 lou1 D1 S1 shd1 shs1 (nI k) f1) → va_S A s.heap H locs → lv_has ls 7 [(0, .ref b), (1, .ref o), (2, .ref mo), (3, .ref q), (4, .int (nI i))] → W p l e room_1 s m args below meth c H locs (cells + 1) (slots + 6) Q (F0 m 927 ls [])) : W p l e room_1 s m args below meth c H locs cells slots Q (F0 m 308 ls []) := by
  obtain ⟨hx, hb, hml, hown, hts⟩ := id hF
  refine lv_aload_n hx hb dL_law_308 rfl (lv_at hl 1 rfl) ?_
  refine lv_aload_n hx hb dL_law_309 rfl (lv_at hl 0 rfl) ?_
  refine lv_iload hx hb dL_law_310 (lv_at hl 4 rfl) ?_
  refine lv_iconst (v := nI 1) hx hb dL_law_312 (by decide) ?_
  refine lv_iadd hx hb dL_law_313 ?_
  refine zN (nI (i + 1)) (nI_add i 1) ?_
  refine z_sld hx hb hX hbl hbA hL hS (by omega) dL_law_314 ?_
  refine lv_aload_n hx hb dL_law_315 rfl (lv_at hl 0 rfl) ?_
  refine lv_iload hx hb dL_law_316 (lv_at hl 4 rfl) ?_
  refine lv_iconst (v := nI 2) hx hb dL_law_318 (by decide) ?_
  refine lv_iadd hx hb dL_law_319 ?_
  refine zN (nI (i + 2)) (nI_add i 2) ?_
  refine z_sld hx hb hX hbl hbA hL hS (by omega) dL_law_320 ?_
  refine lv_aload_n hx hb dL_law_321 rfl (lv_at hl 3 rfl) ?_
  refine zK_sw (av := [.ref o, .int (xs (i + 1)), .int (xs (i + 2)), .ref q]) (rest := []) hF hW (vx_cwSW 4 hts gL_law_L_hush rfl rfl rfl (by decide +kernel) ⟨(Nat.le_of_ble_eq_true rfl), (Nat.le_of_ble_eq_true rfl)⟩) hK hP hD hS hA hE (isC := [0, 1, 2, 3, 4, 5, 6, 7, 8, 15]) (isR := [9, 10, 11, 12, 13, 14]) (perm := [6, 7, 8, 9, 10, 11, 12, 13, 14, 0, 1, 2, 3, 4, 5, 15]) (wr := wm cI mo lo li si sh ss n came2 c2 g2 lou D S shd shs th) (wN := wl cI cJ o h da la sa h2 da2 la2 sa2 mo lo li si sh ss q came1 u1 t1 n came2 c2 g2 lou D S shd shs th f1) ⟨rfl, by decide, rfl, by decide, by decide, rfl, by decide⟩ [0, 1] rfl rfl hl.1 rfl (Nat.le_of_ble_eq_true rfl) dL_law_322 ⟨hc, hs⟩ (fun H locs hP hD hS => ?_)
  refine lv_istore (lv' := [(5, .int (nI k)), (0, .ref b), (1, .ref o), (2, .ref mo), (3, .ref q), (4, .int (nI i))]) hx hb dL_law_325 hl (by decide) rfl (fun ls hl => ?_)
  refine lv_aload_n hx hb dL_law_327 rfl (lv_at hl 3 rfl) ?_
  refine lv_aload_n hx hb dL_law_328 rfl (lv_at hl 1 rfl) ?_
  refine lv_iload hx hb dL_law_329 (lv_at hl 5 rfl) ?_
  refine lv_iconst (v := nI 1) hx hb dL_law_331 (by decide) ?_
  refine lv_iadd hx hb dL_law_332 ?_
  refine zN (nI (i + 1)) (nI_add i 1) ?_
  refine z_sld hx hb hX hbl hbA hL hS (by omega) dL_law_333 ?_
  refine lv_aload_n hx hb dL_law_334 rfl (lv_at hl 1 rfl) ?_
  refine lv_iload hx hb dL_law_335 (lv_at hl 5 rfl) ?_
  refine lv_iconst (v := nI 2) hx hb dL_law_337 (by decide) ?_
  refine lv_iadd hx hb dL_law_338 ?_
  refine zN (nI (i + 2)) (nI_add i 2) ?_
  refine z_sld hx hb hX hbl hbA hL hS (by omega) dL_law_339 ?_
  refine zK_vi (As := [.int (xs (i + 1)), .int (xs (i + 2))]) (rest := []) hF hM (cwV 2 hts gL_law_X2_hush rfl rfl rfl (by decide +kernel) ⟨(Nat.le_of_ble_eq_true rfl), (Nat.le_of_ble_eq_true rfl)⟩) hK hP hD hS hA (ci := 2) (q0 := 9) rfl rfl rfl (isC := [9, 10, 11, 12, 13, 14]) (isR := [0, 1, 2, 3, 4, 5, 6, 7, 8, 15]) (perm := [0, 1, 2, 3, 4, 5, 6, 7, 8, 10, 11, 12, 13, 14, 15, 9]) (wr := wx cI o h da la sa h2 da2 la2 sa2 came1 u1 t1 ++ wo cJ q f1) (wN := wl cI cJ o h da la sa h2 da2 la2 sa2 mo lo li si sh ss q came1 u1 t1 n1 came3 c3 g3 lou1 D1 S1 shd1 shs1 (nI k) f1) ⟨rfl, by decide, rfl, by decide, by decide, rfl, by decide⟩ [0] rfl rfl hl.1 rfl (Nat.le_of_ble_eq_true rfl) dL_law_340 ⟨(show cells + 1 + 0 ≤ 1052 by omega), (show slots + 6 + 0 ≤ 9420 by omega)⟩ (fun H locs hP hD hS => ?_)
  refine lv_istore (lv' := [(6, .int r), (5, .int (nI k)), (0, .ref b), (1, .ref o), (2, .ref mo), (3, .ref q), (4, .int (nI i))]) hx hb dL_law_343 hl (by decide) rfl (fun ls hl => ?_)
  refine lv_aload_n hx hb dL_law_345 rfl (lv_at hl 4 rfl) ?_
  refine zK_vi (As := []) (rest := []) hF (m_thrown l G cI mo lo li si sh ss n1 came3 c3 g3 lou1 D1 S1 shd1 shs1 (nI k)) (cwV 0 hts gL_law_X2_thrown rfl rfl rfl (by decide +kernel) ⟨(Nat.le_of_ble_eq_true rfl), (Nat.le_of_ble_eq_true rfl)⟩) hK hP hD hS hA (ci := 2) (q0 := 9) rfl rfl rfl (isC := [9, 10, 11, 12, 13, 14]) (isR := [0, 1, 2, 3, 4, 5, 6, 7, 8, 15]) (perm := [0, 1, 2, 3, 4, 5, 6, 7, 8, 10, 11, 12, 13, 14, 15, 9]) (wr := wx cI o h da la sa h2 da2 la2 sa2 came1 u1 t1 ++ wo cJ q f1) (wN := wl cI cJ o h da la sa h2 da2 la2 sa2 mo lo li si sh ss q came1 u1 t1 n1 came3 c3 g3 lou1 D1 S1 shd1 shs1 (nI k) f1) ⟨rfl, by decide, rfl, by decide, by decide, rfl, by decide⟩ [0] rfl rfl hl.1 rfl (Nat.le_of_ble_eq_true rfl) dL_law_346 ⟨(show cells + 1 + 0 ≤ 1052 by omega), (show slots + 6 + 0 ≤ 9420 by omega)⟩ (fun H locs hP hD hS => ?_)
  refine lv_iload hx hb dL_law_349 (lv_at hl 1 rfl) ?_
  refine lv_icmp_eq (tgt := 356) hx hb dL_law_351 (by decide) (fun hc9 => ?_) (fun hc9 => absurd rfl hc9)
  have hl9 := lv_sub hl [2, 3, 4, 5, 6] (l' := [(0, .ref b), (1, .ref o), (2, .ref mo), (3, .ref q), (4, .int (nI i))]) rfl
  refine lv_iload hx hb dL_law_356 (lv_at hl 1 rfl) ?_
  refine lv_if_ne (tgt := 373) hx hb dL_law_358 (by decide) (fun hc8 => ?_) (fun hc8 => ?_)
  · refine lv_goto (tgt := 927) hx hb dL_law_373 (by decide) ?_
    exact kk H locs ls hP hD hS hl9
  have hk := k0_eq (a := k) (by omega) hc8
  refine lv_aload_n hx hb dL_law_361 rfl (lv_at hl 5 rfl) ?_
  refine lv_iconst (v := 0) hx hb dL_law_362 (by decide) ?_
  refine va_lald (f := f1) (n := 1) (cA := cJ) hx hb hK hP 15 1 rfl rfl (by unfold vp_in; decide) dL_law_363 ?_
  refine lv_iload hx hb dL_law_364 (lv_at hl 0 rfl) ?_
  refine lv_i2l hx hb dL_law_366 rfl ?_
  refine W.lcmp hx hb dL_law_367 ?_
  have hq : lg_cmp (f1 (0 : Int32).toNatClampNeg) r.toInt64 = 0 := by rw [show (0 : Int32).toNatClampNeg = 0 from rfl, hk0 hk]; exact lgc_refl _
  refine lv_if_eq (tgt := 373) hx hb dL_law_368 (by decide) (fun hc9 => ?_) (fun hc9 => absurd hq hc9)
  refine lv_goto (tgt := 927) hx hb dL_law_373 (by decide) ?_
  exact kk H locs ls hP hD hS hl9
set_option maxHeartbeats 4000000 in
set_option maxRecDepth 100000 in
theorem k_fetch (hF : CallFix p m c cL_law 7 s args wsL_law RL) (hA : ∀ q, s.heap.size ≤ q → A q) (cI cJ : ClassId) (hK : va_K G vwCl [(cI, .int), (cJ, .long)] s) (hE : zEnv A s s.heap) {b L : Nat} {xs : Nat → Int32} (hX : va_X b L xs s s.heap) (hbl : b < s.heap.size) (hbA : ¬ A b) (hL : L ≤ 2048) (o h da la sa h2 da2 la2 sa2 mo lo li si sh ss q : Nat) {came came1 : Nat} {u t u1 t1 : WH} {n came2 n1 came3 : Nat} {c2 g2 c3 g3 : Int32} {lou D S shd shs lou1 D1 S1 shd1 shs1 : Fn} {th th1 : Int32} {f f1 : Nat → Int64} (hP : va_P G vwCl (wl cI cJ o h da la sa h2 da2 la2 sa2 mo lo li si sh ss q came u t n came2 c2 g2 lou D S shd shs th f) H) (hD : va_D A (wl cI cJ o h da la sa h2 da2 la2 sa2 mo lo li si sh ss q came u t n came2 c2 g2 lou D S shd shs th f)) (hS : va_S A s.heap H locs) (hc : cells + 1 ≤ 1052) (hs : slots + 6 ≤ 9420) {ls : Array Slot} {i : Nat} (hi : i + 4 ≤ L) (hl : lv_has ls 7 [(0, .ref b), (1, .ref o), (2, .ref mo), (3, .ref q), (4, .int (nI i))]) {k : Nat} (hk2 : k ≤ 2) {r : Int32} (hW : zY_i l yL_fetch wsL_fetch ({ frames := 8, cells := 1, slots := 6, locals := 200 }) G [(cI, .int), (cJ, .long)] (wx cI o h da la sa h2 da2 la2 sa2 came u t ++ wo cJ q f) (wx cI o h da la sa h2 da2 la2 sa2 came1 u1 t1 ++ wo cJ q f1) [.ref o, .int (xs (i + 1)), .ref q] 1 6 (nI k)) (hM : zC_i l yX2_fetch wsX2_fetch ({ frames := 3, cells := 0, slots := 0, locals := 68 }) G [(cI, .int)] (wm cI mo lo li si sh ss n came2 c2 g2 lou D S shd shs th) (wm cI mo lo li si sh ss n1 came3 c3 g3 lou1 D1 S1 shd1 shs1 (nI k)) [.ref mo, .int (xs (i + 1))] r) (hk0 : k = 0 → f1 0 = r.toInt64) (kk : ∀ (H : Heap) (locs : List Loc) (ls : Array Slot), va_P G vwCl (wl cI cJ o h da la sa h2 da2 la2 sa2 mo lo li si sh ss q came1 u1 t1 n1 came3 c3 g3 lou1 D1 S1 shd1 shs1 (nI k) f1) H → va_D A (wl cI cJ o h da la sa h2 da2 la2 sa2 mo lo li si sh ss q came1 u1 t1 n1 came3 c3 g3 lou1 D1 S1 shd1 shs1 (nI k) f1) → va_S A s.heap H locs → lv_has ls 7 [(0, .ref b), (1, .ref o), (2, .ref mo), (3, .ref q), (4, .int (nI i))] → W p l e room_1 s m args below meth c H locs (cells + 1) (slots + 6) Q (F0 m 927 ls [])) : W p l e room_1 s m args below meth c H locs cells slots Q (F0 m 376 ls []) := by
  obtain ⟨hx, hb, hml, hown, hts⟩ := id hF
  refine lv_aload_n hx hb dL_law_376 rfl (lv_at hl 1 rfl) ?_
  refine lv_aload_n hx hb dL_law_377 rfl (lv_at hl 0 rfl) ?_
  refine lv_iload hx hb dL_law_378 (lv_at hl 4 rfl) ?_
  refine lv_iconst (v := nI 1) hx hb dL_law_380 (by decide) ?_
  refine lv_iadd hx hb dL_law_381 ?_
  refine zN (nI (i + 1)) (nI_add i 1) ?_
  refine z_sld hx hb hX hbl hbA hL hS (by omega) dL_law_382 ?_
  refine lv_aload_n hx hb dL_law_383 rfl (lv_at hl 3 rfl) ?_
  refine zK_sw (av := [.ref o, .int (xs (i + 1)), .ref q]) (rest := []) hF hW (vx_cwSW 3 hts gL_law_L_fetch rfl rfl rfl (by decide +kernel) ⟨(Nat.le_of_ble_eq_true rfl), (Nat.le_of_ble_eq_true rfl)⟩) hK hP hD hS hA hE (isC := [0, 1, 2, 3, 4, 5, 6, 7, 8, 15]) (isR := [9, 10, 11, 12, 13, 14]) (perm := [6, 7, 8, 9, 10, 11, 12, 13, 14, 0, 1, 2, 3, 4, 5, 15]) (wr := wm cI mo lo li si sh ss n came2 c2 g2 lou D S shd shs th) (wN := wl cI cJ o h da la sa h2 da2 la2 sa2 mo lo li si sh ss q came1 u1 t1 n came2 c2 g2 lou D S shd shs th f1) ⟨rfl, by decide, rfl, by decide, by decide, rfl, by decide⟩ [0, 1] rfl rfl hl.1 rfl (Nat.le_of_ble_eq_true rfl) dL_law_384 ⟨hc, hs⟩ (fun H locs hP hD hS => ?_)
  refine lv_istore (lv' := [(5, .int (nI k)), (0, .ref b), (1, .ref o), (2, .ref mo), (3, .ref q), (4, .int (nI i))]) hx hb dL_law_387 hl (by decide) rfl (fun ls hl => ?_)
  refine lv_aload_n hx hb dL_law_389 rfl (lv_at hl 3 rfl) ?_
  refine lv_aload_n hx hb dL_law_390 rfl (lv_at hl 1 rfl) ?_
  refine lv_iload hx hb dL_law_391 (lv_at hl 5 rfl) ?_
  refine lv_iconst (v := nI 1) hx hb dL_law_393 (by decide) ?_
  refine lv_iadd hx hb dL_law_394 ?_
  refine zN (nI (i + 1)) (nI_add i 1) ?_
  refine z_sld hx hb hX hbl hbA hL hS (by omega) dL_law_395 ?_
  refine zK_vi (As := [.int (xs (i + 1))]) (rest := []) hF hM (cwV 1 hts gL_law_X2_fetch rfl rfl rfl (by decide +kernel) ⟨(Nat.le_of_ble_eq_true rfl), (Nat.le_of_ble_eq_true rfl)⟩) hK hP hD hS hA (ci := 2) (q0 := 9) rfl rfl rfl (isC := [9, 10, 11, 12, 13, 14]) (isR := [0, 1, 2, 3, 4, 5, 6, 7, 8, 15]) (perm := [0, 1, 2, 3, 4, 5, 6, 7, 8, 10, 11, 12, 13, 14, 15, 9]) (wr := wx cI o h da la sa h2 da2 la2 sa2 came1 u1 t1 ++ wo cJ q f1) (wN := wl cI cJ o h da la sa h2 da2 la2 sa2 mo lo li si sh ss q came1 u1 t1 n1 came3 c3 g3 lou1 D1 S1 shd1 shs1 (nI k) f1) ⟨rfl, by decide, rfl, by decide, by decide, rfl, by decide⟩ [0] rfl rfl hl.1 rfl (Nat.le_of_ble_eq_true rfl) dL_law_396 ⟨(show cells + 1 + 0 ≤ 1052 by omega), (show slots + 6 + 0 ≤ 9420 by omega)⟩ (fun H locs hP hD hS => ?_)
  refine lv_istore (lv' := [(6, .int r), (5, .int (nI k)), (0, .ref b), (1, .ref o), (2, .ref mo), (3, .ref q), (4, .int (nI i))]) hx hb dL_law_399 hl (by decide) rfl (fun ls hl => ?_)
  refine lv_aload_n hx hb dL_law_401 rfl (lv_at hl 4 rfl) ?_
  refine zK_vi (As := []) (rest := []) hF (m_thrown l G cI mo lo li si sh ss n1 came3 c3 g3 lou1 D1 S1 shd1 shs1 (nI k)) (cwV 0 hts gL_law_X2_thrown rfl rfl rfl (by decide +kernel) ⟨(Nat.le_of_ble_eq_true rfl), (Nat.le_of_ble_eq_true rfl)⟩) hK hP hD hS hA (ci := 2) (q0 := 9) rfl rfl rfl (isC := [9, 10, 11, 12, 13, 14]) (isR := [0, 1, 2, 3, 4, 5, 6, 7, 8, 15]) (perm := [0, 1, 2, 3, 4, 5, 6, 7, 8, 10, 11, 12, 13, 14, 15, 9]) (wr := wx cI o h da la sa h2 da2 la2 sa2 came1 u1 t1 ++ wo cJ q f1) (wN := wl cI cJ o h da la sa h2 da2 la2 sa2 mo lo li si sh ss q came1 u1 t1 n1 came3 c3 g3 lou1 D1 S1 shd1 shs1 (nI k) f1) ⟨rfl, by decide, rfl, by decide, by decide, rfl, by decide⟩ [0] rfl rfl hl.1 rfl (Nat.le_of_ble_eq_true rfl) dL_law_402 ⟨(show cells + 1 + 0 ≤ 1052 by omega), (show slots + 6 + 0 ≤ 9420 by omega)⟩ (fun H locs hP hD hS => ?_)
  refine lv_iload hx hb dL_law_405 (lv_at hl 1 rfl) ?_
  refine lv_icmp_eq (tgt := 412) hx hb dL_law_407 (by decide) (fun hc9 => ?_) (fun hc9 => absurd rfl hc9)
  have hl9 := lv_sub hl [2, 3, 4, 5, 6] (l' := [(0, .ref b), (1, .ref o), (2, .ref mo), (3, .ref q), (4, .int (nI i))]) rfl
  refine lv_iload hx hb dL_law_412 (lv_at hl 1 rfl) ?_
  refine lv_if_ne (tgt := 429) hx hb dL_law_414 (by decide) (fun hc8 => ?_) (fun hc8 => ?_)
  · refine lv_goto (tgt := 927) hx hb dL_law_429 (by decide) ?_
    exact kk H locs ls hP hD hS hl9
  have hk := k0_eq (a := k) (by omega) hc8
  refine lv_aload_n hx hb dL_law_417 rfl (lv_at hl 5 rfl) ?_
  refine lv_iconst (v := 0) hx hb dL_law_418 (by decide) ?_
  refine va_lald (f := f1) (n := 1) (cA := cJ) hx hb hK hP 15 1 rfl rfl (by unfold vp_in; decide) dL_law_419 ?_
  refine lv_iload hx hb dL_law_420 (lv_at hl 0 rfl) ?_
  refine lv_i2l hx hb dL_law_422 rfl ?_
  refine W.lcmp hx hb dL_law_423 ?_
  have hq : lg_cmp (f1 (0 : Int32).toNatClampNeg) r.toInt64 = 0 := by rw [show (0 : Int32).toNatClampNeg = 0 from rfl, hk0 hk]; exact lgc_refl _
  refine lv_if_eq (tgt := 429) hx hb dL_law_424 (by decide) (fun hc9 => ?_) (fun hc9 => absurd hq hc9)
  refine lv_goto (tgt := 927) hx hb dL_law_429 (by decide) ?_
  exact kk H locs ls hP hD hS hl9
set_option maxHeartbeats 4000000 in
set_option maxRecDepth 100000 in
theorem k_dukes (hF : CallFix p m c cL_law 7 s args wsL_law RL) (hA : ∀ q, s.heap.size ≤ q → A q) (cI cJ : ClassId) (hK : va_K G vwCl [(cI, .int), (cJ, .long)] s) (hE : zEnv A s s.heap) {b L : Nat} {xs : Nat → Int32} (hX : va_X b L xs s s.heap) (hbl : b < s.heap.size) (hbA : ¬ A b) (hL : L ≤ 2048) (o h da la sa h2 da2 la2 sa2 mo lo li si sh ss q : Nat) {came came1 : Nat} {u t u1 t1 : WH} {n came2 n1 came3 : Nat} {c2 g2 c3 g3 : Int32} {lou D S shd shs lou1 D1 S1 shd1 shs1 : Fn} {th th1 : Int32} {f f1 : Nat → Int64} (hP : va_P G vwCl (wl cI cJ o h da la sa h2 da2 la2 sa2 mo lo li si sh ss q came u t n came2 c2 g2 lou D S shd shs th f) H) (hD : va_D A (wl cI cJ o h da la sa h2 da2 la2 sa2 mo lo li si sh ss q came u t n came2 c2 g2 lou D S shd shs th f)) (hS : va_S A s.heap H locs) (hc : cells + 1 ≤ 1052) (hs : slots + 6 ≤ 9420) {ls : Array Slot} {i : Nat} (hi : i + 4 ≤ L) (hl : lv_has ls 7 [(0, .ref b), (1, .ref o), (2, .ref mo), (3, .ref q), (4, .int (nI i))]) {r : Int32} (hW : zY_i l yX1_dukes wsX1_dukes ({ frames := 0, cells := 0, slots := 0, locals := 0 }) G [(cI, .int)] (wx cI o h da la sa h2 da2 la2 sa2 came u t) (wx cI o h da la sa h2 da2 la2 sa2 came1 u1 t1) [.ref o] 0 0 r) (hM : zC_i l yX2_dukes wsX2_dukes ({ frames := 0, cells := 0, slots := 0, locals := 0 }) G [(cI, .int)] (wm cI mo lo li si sh ss n came2 c2 g2 lou D S shd shs th) (wm cI mo lo li si sh ss n1 came3 c3 g3 lou1 D1 S1 shd1 shs1 th1) [.ref mo] r) (kk : ∀ (H : Heap) (locs : List Loc) (ls : Array Slot), va_P G vwCl (wl cI cJ o h da la sa h2 da2 la2 sa2 mo lo li si sh ss q came1 u1 t1 n1 came3 c3 g3 lou1 D1 S1 shd1 shs1 th1 f) H → va_D A (wl cI cJ o h da la sa h2 da2 la2 sa2 mo lo li si sh ss q came1 u1 t1 n1 came3 c3 g3 lou1 D1 S1 shd1 shs1 th1 f) → va_S A s.heap H locs → lv_has ls 7 [(0, .ref b), (1, .ref o), (2, .ref mo), (3, .ref q), (4, .int (nI i))] → W p l e room_1 s m args below meth c H locs (cells + 1) (slots + 6) Q (F0 m 927 ls [])) : W p l e room_1 s m args below meth c H locs cells slots Q (F0 m 432 ls []) := by
  obtain ⟨hx, hb, hml, hown, hts⟩ := id hF
  refine lv_aload_n hx hb dL_law_432 rfl (lv_at hl 1 rfl) ?_
  refine zK_vy (As := []) (rest := []) hF hW (cwV 0 hts gL_law_X1_dukes rfl rfl rfl (by decide +kernel) ⟨(Nat.le_of_ble_eq_true rfl), (Nat.le_of_ble_eq_true rfl)⟩) hK hP hD hS hA hE (ci := 1) (q0 := 0) rfl rfl rfl (isC := [0, 1, 2, 3, 4, 5, 6, 7, 8]) (isR := [9, 10, 11, 12, 13, 14, 15]) (perm := [7, 8, 9, 10, 11, 12, 13, 14, 15, 0, 1, 2, 3, 4, 5, 6]) (wr := wm cI mo lo li si sh ss n came2 c2 g2 lou D S shd shs th ++ wo cJ q f) (wN := wl cI cJ o h da la sa h2 da2 la2 sa2 mo lo li si sh ss q came1 u1 t1 n came2 c2 g2 lou D S shd shs th f) ⟨rfl, by decide, rfl, by decide, by decide, rfl, by decide⟩ [0] rfl rfl hl.1 rfl (Nat.le_of_ble_eq_true rfl) dL_law_433 ⟨(show cells + 0 ≤ 1052 by omega), (show slots + 0 ≤ 9420 by omega)⟩ (fun H locs hP hD hS => ?_)
  refine lv_aload_n hx hb dL_law_436 rfl (lv_at hl 2 rfl) ?_
  refine zK_vi (As := []) (rest := [.int r]) hF hM (cwV 0 hts gL_law_X2_dukes rfl rfl rfl (by decide +kernel) ⟨(Nat.le_of_ble_eq_true rfl), (Nat.le_of_ble_eq_true rfl)⟩) hK hP hD hS hA (ci := 2) (q0 := 9) rfl rfl rfl (isC := [9, 10, 11, 12, 13, 14]) (isR := [0, 1, 2, 3, 4, 5, 6, 7, 8, 15]) (perm := [0, 1, 2, 3, 4, 5, 6, 7, 8, 10, 11, 12, 13, 14, 15, 9]) (wr := wx cI o h da la sa h2 da2 la2 sa2 came1 u1 t1 ++ wo cJ q f) (wN := wl cI cJ o h da la sa h2 da2 la2 sa2 mo lo li si sh ss q came1 u1 t1 n1 came3 c3 g3 lou1 D1 S1 shd1 shs1 th1 f) ⟨rfl, by decide, rfl, by decide, by decide, rfl, by decide⟩ [0] rfl rfl hl.1 rfl (Nat.le_of_ble_eq_true rfl) dL_law_437 ⟨(show cells + 0 ≤ 1052 by omega), (show slots + 0 ≤ 9420 by omega)⟩ (fun H locs hP hD hS => ?_)
  refine lv_icmp_eq (tgt := 927) hx hb dL_law_440 (by decide) (fun hc9 => ?_) (fun hc9 => absurd rfl hc9)
  exact W.widen (k := cells + 1) (n := slots + 6) (by omega) (by omega) (kk H locs ls hP hD hS hl)
set_option maxHeartbeats 4000000 in
set_option maxRecDepth 100000 in
theorem k_quietest (hF : CallFix p m c cL_law 7 s args wsL_law RL) (hA : ∀ q, s.heap.size ≤ q → A q) (cI cJ : ClassId) (hK : va_K G vwCl [(cI, .int), (cJ, .long)] s) (hE : zEnv A s s.heap) {b L : Nat} {xs : Nat → Int32} (hX : va_X b L xs s s.heap) (hbl : b < s.heap.size) (hbA : ¬ A b) (hL : L ≤ 2048) (o h da la sa h2 da2 la2 sa2 mo lo li si sh ss q : Nat) {came came1 : Nat} {u t u1 t1 : WH} {n came2 n1 came3 : Nat} {c2 g2 c3 g3 : Int32} {lou D S shd shs lou1 D1 S1 shd1 shs1 : Fn} {th th1 : Int32} {f f1 : Nat → Int64} (hP : va_P G vwCl (wl cI cJ o h da la sa h2 da2 la2 sa2 mo lo li si sh ss q came u t n came2 c2 g2 lou D S shd shs th f) H) (hD : va_D A (wl cI cJ o h da la sa h2 da2 la2 sa2 mo lo li si sh ss q came u t n came2 c2 g2 lou D S shd shs th f)) (hS : va_S A s.heap H locs) (hc : cells + 1 ≤ 1052) (hs : slots + 6 ≤ 9420) {ls : Array Slot} {i : Nat} (hi : i + 4 ≤ L) (hl : lv_has ls 7 [(0, .ref b), (1, .ref o), (2, .ref mo), (3, .ref q), (4, .int (nI i))]) {r : Int32} (hW : zY_i l yX1_quietest wsX1_quietest ({ frames := 2, cells := 0, slots := 0, locals := 42 }) G [(cI, .int)] (wx cI o h da la sa h2 da2 la2 sa2 came u t) (wx cI o h da la sa h2 da2 la2 sa2 came1 u1 t1) [.ref o] 0 0 r) (hM : zC_i l yX2_quietest wsX2_quietest ({ frames := 0, cells := 0, slots := 0, locals := 0 }) G [(cI, .int)] (wm cI mo lo li si sh ss n came2 c2 g2 lou D S shd shs th) (wm cI mo lo li si sh ss n1 came3 c3 g3 lou1 D1 S1 shd1 shs1 th1) [.ref mo] r) (kk : ∀ (H : Heap) (locs : List Loc) (ls : Array Slot), va_P G vwCl (wl cI cJ o h da la sa h2 da2 la2 sa2 mo lo li si sh ss q came1 u1 t1 n1 came3 c3 g3 lou1 D1 S1 shd1 shs1 th1 f) H → va_D A (wl cI cJ o h da la sa h2 da2 la2 sa2 mo lo li si sh ss q came1 u1 t1 n1 came3 c3 g3 lou1 D1 S1 shd1 shs1 th1 f) → va_S A s.heap H locs → lv_has ls 7 [(0, .ref b), (1, .ref o), (2, .ref mo), (3, .ref q), (4, .int (nI i))] → W p l e room_1 s m args below meth c H locs (cells + 1) (slots + 6) Q (F0 m 927 ls [])) : W p l e room_1 s m args below meth c H locs cells slots Q (F0 m 445 ls []) := by
  obtain ⟨hx, hb, hml, hown, hts⟩ := id hF
  refine lv_aload_n hx hb dL_law_445 rfl (lv_at hl 1 rfl) ?_
  refine zK_vy (As := []) (rest := []) hF hW (cwV 0 hts gL_law_X1_quietest rfl rfl rfl (by decide +kernel) ⟨(Nat.le_of_ble_eq_true rfl), (Nat.le_of_ble_eq_true rfl)⟩) hK hP hD hS hA hE (ci := 1) (q0 := 0) rfl rfl rfl (isC := [0, 1, 2, 3, 4, 5, 6, 7, 8]) (isR := [9, 10, 11, 12, 13, 14, 15]) (perm := [7, 8, 9, 10, 11, 12, 13, 14, 15, 0, 1, 2, 3, 4, 5, 6]) (wr := wm cI mo lo li si sh ss n came2 c2 g2 lou D S shd shs th ++ wo cJ q f) (wN := wl cI cJ o h da la sa h2 da2 la2 sa2 mo lo li si sh ss q came1 u1 t1 n came2 c2 g2 lou D S shd shs th f) ⟨rfl, by decide, rfl, by decide, by decide, rfl, by decide⟩ [0] rfl rfl hl.1 rfl (Nat.le_of_ble_eq_true rfl) dL_law_446 ⟨(show cells + 0 ≤ 1052 by omega), (show slots + 0 ≤ 9420 by omega)⟩ (fun H locs hP hD hS => ?_)
  refine lv_aload_n hx hb dL_law_449 rfl (lv_at hl 2 rfl) ?_
  refine zK_vi (As := []) (rest := [.int r]) hF hM (cwV 0 hts gL_law_X2_quietest rfl rfl rfl (by decide +kernel) ⟨(Nat.le_of_ble_eq_true rfl), (Nat.le_of_ble_eq_true rfl)⟩) hK hP hD hS hA (ci := 2) (q0 := 9) rfl rfl rfl (isC := [9, 10, 11, 12, 13, 14]) (isR := [0, 1, 2, 3, 4, 5, 6, 7, 8, 15]) (perm := [0, 1, 2, 3, 4, 5, 6, 7, 8, 10, 11, 12, 13, 14, 15, 9]) (wr := wx cI o h da la sa h2 da2 la2 sa2 came1 u1 t1 ++ wo cJ q f) (wN := wl cI cJ o h da la sa h2 da2 la2 sa2 mo lo li si sh ss q came1 u1 t1 n1 came3 c3 g3 lou1 D1 S1 shd1 shs1 th1 f) ⟨rfl, by decide, rfl, by decide, by decide, rfl, by decide⟩ [0] rfl rfl hl.1 rfl (Nat.le_of_ble_eq_true rfl) dL_law_450 ⟨(show cells + 0 ≤ 1052 by omega), (show slots + 0 ≤ 9420 by omega)⟩ (fun H locs hP hD hS => ?_)
  refine lv_icmp_eq (tgt := 927) hx hb dL_law_453 (by decide) (fun hc9 => ?_) (fun hc9 => absurd rfl hc9)
  exact W.widen (k := cells + 1) (n := slots + 6) (by omega) (by omega) (kk H locs ls hP hD hS hl)
set_option maxHeartbeats 4000000 in
set_option maxRecDepth 100000 in
theorem k_berthOf (hF : CallFix p m c cL_law 7 s args wsL_law RL) (hA : ∀ q, s.heap.size ≤ q → A q) (cI cJ : ClassId) (hK : va_K G vwCl [(cI, .int), (cJ, .long)] s) (hE : zEnv A s s.heap) {b L : Nat} {xs : Nat → Int32} (hX : va_X b L xs s s.heap) (hbl : b < s.heap.size) (hbA : ¬ A b) (hL : L ≤ 2048) (o h da la sa h2 da2 la2 sa2 mo lo li si sh ss q : Nat) {came came1 : Nat} {u t u1 t1 : WH} {n came2 n1 came3 : Nat} {c2 g2 c3 g3 : Int32} {lou D S shd shs lou1 D1 S1 shd1 shs1 : Fn} {th th1 : Int32} {f f1 : Nat → Int64} (hP : va_P G vwCl (wl cI cJ o h da la sa h2 da2 la2 sa2 mo lo li si sh ss q came u t n came2 c2 g2 lou D S shd shs th f) H) (hD : va_D A (wl cI cJ o h da la sa h2 da2 la2 sa2 mo lo li si sh ss q came u t n came2 c2 g2 lou D S shd shs th f)) (hS : va_S A s.heap H locs) (hc : cells + 1 ≤ 1052) (hs : slots + 6 ≤ 9420) {ls : Array Slot} {i : Nat} (hi : i + 4 ≤ L) (hl : lv_has ls 7 [(0, .ref b), (1, .ref o), (2, .ref mo), (3, .ref q), (4, .int (nI i))]) {r : Int32} (hW : zY_i l yX1_berthOf wsX1_berthOf ({ frames := 3, cells := 0, slots := 0, locals := 64 }) G [(cI, .int)] (wx cI o h da la sa h2 da2 la2 sa2 came u t) (wx cI o h da la sa h2 da2 la2 sa2 came1 u1 t1) [.ref o, .int (xs (i + 1))] 0 0 r) (hM : zC_i l yX2_berthOf wsX2_berthOf ({ frames := 1, cells := 0, slots := 0, locals := 22 }) G [(cI, .int)] (wm cI mo lo li si sh ss n came2 c2 g2 lou D S shd shs th) (wm cI mo lo li si sh ss n1 came3 c3 g3 lou1 D1 S1 shd1 shs1 th1) [.ref mo, .int (xs (i + 1))] r) (kk : ∀ (H : Heap) (locs : List Loc) (ls : Array Slot), va_P G vwCl (wl cI cJ o h da la sa h2 da2 la2 sa2 mo lo li si sh ss q came1 u1 t1 n1 came3 c3 g3 lou1 D1 S1 shd1 shs1 th1 f) H → va_D A (wl cI cJ o h da la sa h2 da2 la2 sa2 mo lo li si sh ss q came1 u1 t1 n1 came3 c3 g3 lou1 D1 S1 shd1 shs1 th1 f) → va_S A s.heap H locs → lv_has ls 7 [(0, .ref b), (1, .ref o), (2, .ref mo), (3, .ref q), (4, .int (nI i))] → W p l e room_1 s m args below meth c H locs (cells + 1) (slots + 6) Q (F0 m 927 ls [])) : W p l e room_1 s m args below meth c H locs cells slots Q (F0 m 458 ls []) := by
  obtain ⟨hx, hb, hml, hown, hts⟩ := id hF
  refine lv_aload_n hx hb dL_law_458 rfl (lv_at hl 1 rfl) ?_
  refine lv_aload_n hx hb dL_law_459 rfl (lv_at hl 0 rfl) ?_
  refine lv_iload hx hb dL_law_460 (lv_at hl 4 rfl) ?_
  refine lv_iconst (v := nI 1) hx hb dL_law_462 (by decide) ?_
  refine lv_iadd hx hb dL_law_463 ?_
  refine zN (nI (i + 1)) (nI_add i 1) ?_
  refine z_sld hx hb hX hbl hbA hL hS (by omega) dL_law_464 ?_
  refine zK_vy (As := [.int (xs (i + 1))]) (rest := []) hF hW (cwV 1 hts gL_law_X1_berthOf rfl rfl rfl (by decide +kernel) ⟨(Nat.le_of_ble_eq_true rfl), (Nat.le_of_ble_eq_true rfl)⟩) hK hP hD hS hA hE (ci := 1) (q0 := 0) rfl rfl rfl (isC := [0, 1, 2, 3, 4, 5, 6, 7, 8]) (isR := [9, 10, 11, 12, 13, 14, 15]) (perm := [7, 8, 9, 10, 11, 12, 13, 14, 15, 0, 1, 2, 3, 4, 5, 6]) (wr := wm cI mo lo li si sh ss n came2 c2 g2 lou D S shd shs th ++ wo cJ q f) (wN := wl cI cJ o h da la sa h2 da2 la2 sa2 mo lo li si sh ss q came1 u1 t1 n came2 c2 g2 lou D S shd shs th f) ⟨rfl, by decide, rfl, by decide, by decide, rfl, by decide⟩ [0] rfl rfl hl.1 rfl (Nat.le_of_ble_eq_true rfl) dL_law_465 ⟨(show cells + 0 ≤ 1052 by omega), (show slots + 0 ≤ 9420 by omega)⟩ (fun H locs hP hD hS => ?_)
  refine lv_aload_n hx hb dL_law_468 rfl (lv_at hl 2 rfl) ?_
  refine lv_aload_n hx hb dL_law_469 rfl (lv_at hl 0 rfl) ?_
  refine lv_iload hx hb dL_law_470 (lv_at hl 4 rfl) ?_
  refine lv_iconst (v := nI 1) hx hb dL_law_472 (by decide) ?_
  refine lv_iadd hx hb dL_law_473 ?_
  refine zN (nI (i + 1)) (nI_add i 1) ?_
  refine z_sld hx hb hX hbl hbA hL hS (by omega) dL_law_474 ?_
  refine zK_vi (As := [.int (xs (i + 1))]) (rest := [.int r]) hF hM (cwV 1 hts gL_law_X2_berthOf rfl rfl rfl (by decide +kernel) ⟨(Nat.le_of_ble_eq_true rfl), (Nat.le_of_ble_eq_true rfl)⟩) hK hP hD hS hA (ci := 2) (q0 := 9) rfl rfl rfl (isC := [9, 10, 11, 12, 13, 14]) (isR := [0, 1, 2, 3, 4, 5, 6, 7, 8, 15]) (perm := [0, 1, 2, 3, 4, 5, 6, 7, 8, 10, 11, 12, 13, 14, 15, 9]) (wr := wx cI o h da la sa h2 da2 la2 sa2 came1 u1 t1 ++ wo cJ q f) (wN := wl cI cJ o h da la sa h2 da2 la2 sa2 mo lo li si sh ss q came1 u1 t1 n1 came3 c3 g3 lou1 D1 S1 shd1 shs1 th1 f) ⟨rfl, by decide, rfl, by decide, by decide, rfl, by decide⟩ [0] rfl rfl hl.1 rfl (Nat.le_of_ble_eq_true rfl) dL_law_475 ⟨(show cells + 0 ≤ 1052 by omega), (show slots + 0 ≤ 9420 by omega)⟩ (fun H locs hP hD hS => ?_)
  refine lv_icmp_eq (tgt := 927) hx hb dL_law_478 (by decide) (fun hc9 => ?_) (fun hc9 => absurd rfl hc9)
  exact W.widen (k := cells + 1) (n := slots + 6) (by omega) (by omega) (kk H locs ls hP hD hS hl)
set_option maxHeartbeats 4000000 in
set_option maxRecDepth 100000 in
theorem k_dukeIn (hF : CallFix p m c cL_law 7 s args wsL_law RL) (hA : ∀ q, s.heap.size ≤ q → A q) (cI cJ : ClassId) (hK : va_K G vwCl [(cI, .int), (cJ, .long)] s) (hE : zEnv A s s.heap) {b L : Nat} {xs : Nat → Int32} (hX : va_X b L xs s s.heap) (hbl : b < s.heap.size) (hbA : ¬ A b) (hL : L ≤ 2048) (o h da la sa h2 da2 la2 sa2 mo lo li si sh ss q : Nat) {came came1 : Nat} {u t u1 t1 : WH} {n came2 n1 came3 : Nat} {c2 g2 c3 g3 : Int32} {lou D S shd shs lou1 D1 S1 shd1 shs1 : Fn} {th th1 : Int32} {f f1 : Nat → Int64} (hP : va_P G vwCl (wl cI cJ o h da la sa h2 da2 la2 sa2 mo lo li si sh ss q came u t n came2 c2 g2 lou D S shd shs th f) H) (hD : va_D A (wl cI cJ o h da la sa h2 da2 la2 sa2 mo lo li si sh ss q came u t n came2 c2 g2 lou D S shd shs th f)) (hS : va_S A s.heap H locs) (hc : cells + 1 ≤ 1052) (hs : slots + 6 ≤ 9420) {ls : Array Slot} {i : Nat} (hi : i + 4 ≤ L) (hl : lv_has ls 7 [(0, .ref b), (1, .ref o), (2, .ref mo), (3, .ref q), (4, .int (nI i))]) {k : Nat} (hk2 : k ≤ 2) {r : Int32} (hW : zY_i l yL_dukeIn wsL_dukeIn ({ frames := 8, cells := 1, slots := 6, locals := 200 }) G [(cI, .int), (cJ, .long)] (wx cI o h da la sa h2 da2 la2 sa2 came u t ++ wo cJ q f) (wx cI o h da la sa h2 da2 la2 sa2 came1 u1 t1 ++ wo cJ q f1) [.ref o, .int (xs (i + 1)), .ref q] 1 6 (nI k)) (hM : zC_i l yX2_dukeIn wsX2_dukeIn ({ frames := 2, cells := 0, slots := 0, locals := 43 }) G [(cI, .int)] (wm cI mo lo li si sh ss n came2 c2 g2 lou D S shd shs th) (wm cI mo lo li si sh ss n1 came3 c3 g3 lou1 D1 S1 shd1 shs1 (nI k)) [.ref mo, .int (xs (i + 1))] r) (hk0 : k = 0 → f1 0 = r.toInt64) (kk : ∀ (H : Heap) (locs : List Loc) (ls : Array Slot), va_P G vwCl (wl cI cJ o h da la sa h2 da2 la2 sa2 mo lo li si sh ss q came1 u1 t1 n1 came3 c3 g3 lou1 D1 S1 shd1 shs1 (nI k) f1) H → va_D A (wl cI cJ o h da la sa h2 da2 la2 sa2 mo lo li si sh ss q came1 u1 t1 n1 came3 c3 g3 lou1 D1 S1 shd1 shs1 (nI k) f1) → va_S A s.heap H locs → lv_has ls 7 [(0, .ref b), (1, .ref o), (2, .ref mo), (3, .ref q), (4, .int (nI i))] → W p l e room_1 s m args below meth c H locs (cells + 1) (slots + 6) Q (F0 m 927 ls [])) : W p l e room_1 s m args below meth c H locs cells slots Q (F0 m 483 ls []) := by
  obtain ⟨hx, hb, hml, hown, hts⟩ := id hF
  refine lv_aload_n hx hb dL_law_483 rfl (lv_at hl 1 rfl) ?_
  refine lv_aload_n hx hb dL_law_484 rfl (lv_at hl 0 rfl) ?_
  refine lv_iload hx hb dL_law_485 (lv_at hl 4 rfl) ?_
  refine lv_iconst (v := nI 1) hx hb dL_law_487 (by decide) ?_
  refine lv_iadd hx hb dL_law_488 ?_
  refine zN (nI (i + 1)) (nI_add i 1) ?_
  refine z_sld hx hb hX hbl hbA hL hS (by omega) dL_law_489 ?_
  refine lv_aload_n hx hb dL_law_490 rfl (lv_at hl 3 rfl) ?_
  refine zK_sw (av := [.ref o, .int (xs (i + 1)), .ref q]) (rest := []) hF hW (vx_cwSW 3 hts gL_law_L_dukeIn rfl rfl rfl (by decide +kernel) ⟨(Nat.le_of_ble_eq_true rfl), (Nat.le_of_ble_eq_true rfl)⟩) hK hP hD hS hA hE (isC := [0, 1, 2, 3, 4, 5, 6, 7, 8, 15]) (isR := [9, 10, 11, 12, 13, 14]) (perm := [6, 7, 8, 9, 10, 11, 12, 13, 14, 0, 1, 2, 3, 4, 5, 15]) (wr := wm cI mo lo li si sh ss n came2 c2 g2 lou D S shd shs th) (wN := wl cI cJ o h da la sa h2 da2 la2 sa2 mo lo li si sh ss q came1 u1 t1 n came2 c2 g2 lou D S shd shs th f1) ⟨rfl, by decide, rfl, by decide, by decide, rfl, by decide⟩ [0, 1] rfl rfl hl.1 rfl (Nat.le_of_ble_eq_true rfl) dL_law_491 ⟨hc, hs⟩ (fun H locs hP hD hS => ?_)
  refine lv_istore (lv' := [(5, .int (nI k)), (0, .ref b), (1, .ref o), (2, .ref mo), (3, .ref q), (4, .int (nI i))]) hx hb dL_law_494 hl (by decide) rfl (fun ls hl => ?_)
  refine lv_aload_n hx hb dL_law_496 rfl (lv_at hl 3 rfl) ?_
  refine lv_aload_n hx hb dL_law_497 rfl (lv_at hl 1 rfl) ?_
  refine lv_iload hx hb dL_law_498 (lv_at hl 5 rfl) ?_
  refine lv_iconst (v := nI 1) hx hb dL_law_500 (by decide) ?_
  refine lv_iadd hx hb dL_law_501 ?_
  refine zN (nI (i + 1)) (nI_add i 1) ?_
  refine z_sld hx hb hX hbl hbA hL hS (by omega) dL_law_502 ?_
  refine zK_vi (As := [.int (xs (i + 1))]) (rest := []) hF hM (cwV 1 hts gL_law_X2_dukeIn rfl rfl rfl (by decide +kernel) ⟨(Nat.le_of_ble_eq_true rfl), (Nat.le_of_ble_eq_true rfl)⟩) hK hP hD hS hA (ci := 2) (q0 := 9) rfl rfl rfl (isC := [9, 10, 11, 12, 13, 14]) (isR := [0, 1, 2, 3, 4, 5, 6, 7, 8, 15]) (perm := [0, 1, 2, 3, 4, 5, 6, 7, 8, 10, 11, 12, 13, 14, 15, 9]) (wr := wx cI o h da la sa h2 da2 la2 sa2 came1 u1 t1 ++ wo cJ q f1) (wN := wl cI cJ o h da la sa h2 da2 la2 sa2 mo lo li si sh ss q came1 u1 t1 n1 came3 c3 g3 lou1 D1 S1 shd1 shs1 (nI k) f1) ⟨rfl, by decide, rfl, by decide, by decide, rfl, by decide⟩ [0] rfl rfl hl.1 rfl (Nat.le_of_ble_eq_true rfl) dL_law_503 ⟨(show cells + 1 + 0 ≤ 1052 by omega), (show slots + 6 + 0 ≤ 9420 by omega)⟩ (fun H locs hP hD hS => ?_)
  refine lv_istore (lv' := [(6, .int r), (5, .int (nI k)), (0, .ref b), (1, .ref o), (2, .ref mo), (3, .ref q), (4, .int (nI i))]) hx hb dL_law_506 hl (by decide) rfl (fun ls hl => ?_)
  refine lv_aload_n hx hb dL_law_508 rfl (lv_at hl 4 rfl) ?_
  refine zK_vi (As := []) (rest := []) hF (m_thrown l G cI mo lo li si sh ss n1 came3 c3 g3 lou1 D1 S1 shd1 shs1 (nI k)) (cwV 0 hts gL_law_X2_thrown rfl rfl rfl (by decide +kernel) ⟨(Nat.le_of_ble_eq_true rfl), (Nat.le_of_ble_eq_true rfl)⟩) hK hP hD hS hA (ci := 2) (q0 := 9) rfl rfl rfl (isC := [9, 10, 11, 12, 13, 14]) (isR := [0, 1, 2, 3, 4, 5, 6, 7, 8, 15]) (perm := [0, 1, 2, 3, 4, 5, 6, 7, 8, 10, 11, 12, 13, 14, 15, 9]) (wr := wx cI o h da la sa h2 da2 la2 sa2 came1 u1 t1 ++ wo cJ q f1) (wN := wl cI cJ o h da la sa h2 da2 la2 sa2 mo lo li si sh ss q came1 u1 t1 n1 came3 c3 g3 lou1 D1 S1 shd1 shs1 (nI k) f1) ⟨rfl, by decide, rfl, by decide, by decide, rfl, by decide⟩ [0] rfl rfl hl.1 rfl (Nat.le_of_ble_eq_true rfl) dL_law_509 ⟨(show cells + 1 + 0 ≤ 1052 by omega), (show slots + 6 + 0 ≤ 9420 by omega)⟩ (fun H locs hP hD hS => ?_)
  refine lv_iload hx hb dL_law_512 (lv_at hl 1 rfl) ?_
  refine lv_icmp_eq (tgt := 519) hx hb dL_law_514 (by decide) (fun hc9 => ?_) (fun hc9 => absurd rfl hc9)
  have hl9 := lv_sub hl [2, 3, 4, 5, 6] (l' := [(0, .ref b), (1, .ref o), (2, .ref mo), (3, .ref q), (4, .int (nI i))]) rfl
  refine lv_iload hx hb dL_law_519 (lv_at hl 1 rfl) ?_
  refine lv_if_ne (tgt := 536) hx hb dL_law_521 (by decide) (fun hc8 => ?_) (fun hc8 => ?_)
  · refine lv_goto (tgt := 927) hx hb dL_law_536 (by decide) ?_
    exact kk H locs ls hP hD hS hl9
  have hk := k0_eq (a := k) (by omega) hc8
  refine lv_aload_n hx hb dL_law_524 rfl (lv_at hl 5 rfl) ?_
  refine lv_iconst (v := 0) hx hb dL_law_525 (by decide) ?_
  refine va_lald (f := f1) (n := 1) (cA := cJ) hx hb hK hP 15 1 rfl rfl (by unfold vp_in; decide) dL_law_526 ?_
  refine lv_iload hx hb dL_law_527 (lv_at hl 0 rfl) ?_
  refine lv_i2l hx hb dL_law_529 rfl ?_
  refine W.lcmp hx hb dL_law_530 ?_
  have hq : lg_cmp (f1 (0 : Int32).toNatClampNeg) r.toInt64 = 0 := by rw [show (0 : Int32).toNatClampNeg = 0 from rfl, hk0 hk]; exact lgc_refl _
  refine lv_if_eq (tgt := 536) hx hb dL_law_531 (by decide) (fun hc9 => ?_) (fun hc9 => absurd hq hc9)
  refine lv_goto (tgt := 927) hx hb dL_law_536 (by decide) ?_
  exact kk H locs ls hP hD hS hl9
set_option maxHeartbeats 4000000 in
set_option maxRecDepth 100000 in
theorem k_loudnessIn (hF : CallFix p m c cL_law 7 s args wsL_law RL) (hA : ∀ q, s.heap.size ≤ q → A q) (cI cJ : ClassId) (hK : va_K G vwCl [(cI, .int), (cJ, .long)] s) (hE : zEnv A s s.heap) {b L : Nat} {xs : Nat → Int32} (hX : va_X b L xs s s.heap) (hbl : b < s.heap.size) (hbA : ¬ A b) (hL : L ≤ 2048) (o h da la sa h2 da2 la2 sa2 mo lo li si sh ss q : Nat) {came came1 : Nat} {u t u1 t1 : WH} {n came2 n1 came3 : Nat} {c2 g2 c3 g3 : Int32} {lou D S shd shs lou1 D1 S1 shd1 shs1 : Fn} {th th1 : Int32} {f f1 : Nat → Int64} (hP : va_P G vwCl (wl cI cJ o h da la sa h2 da2 la2 sa2 mo lo li si sh ss q came u t n came2 c2 g2 lou D S shd shs th f) H) (hD : va_D A (wl cI cJ o h da la sa h2 da2 la2 sa2 mo lo li si sh ss q came u t n came2 c2 g2 lou D S shd shs th f)) (hS : va_S A s.heap H locs) (hc : cells + 1 ≤ 1052) (hs : slots + 6 ≤ 9420) {ls : Array Slot} {i : Nat} (hi : i + 4 ≤ L) (hl : lv_has ls 7 [(0, .ref b), (1, .ref o), (2, .ref mo), (3, .ref q), (4, .int (nI i))]) {k : Nat} (hk2 : k ≤ 2) {r : Int32} (hW : zY_i l yL_loudnessIn wsL_loudnessIn ({ frames := 8, cells := 1, slots := 6, locals := 200 }) G [(cI, .int), (cJ, .long)] (wx cI o h da la sa h2 da2 la2 sa2 came u t ++ wo cJ q f) (wx cI o h da la sa h2 da2 la2 sa2 came1 u1 t1 ++ wo cJ q f1) [.ref o, .int (xs (i + 1)), .ref q] 1 6 (nI k)) (hM : zC_i l yX2_loudnessIn wsX2_loudnessIn ({ frames := 2, cells := 0, slots := 0, locals := 43 }) G [(cI, .int)] (wm cI mo lo li si sh ss n came2 c2 g2 lou D S shd shs th) (wm cI mo lo li si sh ss n1 came3 c3 g3 lou1 D1 S1 shd1 shs1 (nI k)) [.ref mo, .int (xs (i + 1))] r) (hk0 : k = 0 → f1 0 = r.toInt64) (kk : ∀ (H : Heap) (locs : List Loc) (ls : Array Slot), va_P G vwCl (wl cI cJ o h da la sa h2 da2 la2 sa2 mo lo li si sh ss q came1 u1 t1 n1 came3 c3 g3 lou1 D1 S1 shd1 shs1 (nI k) f1) H → va_D A (wl cI cJ o h da la sa h2 da2 la2 sa2 mo lo li si sh ss q came1 u1 t1 n1 came3 c3 g3 lou1 D1 S1 shd1 shs1 (nI k) f1) → va_S A s.heap H locs → lv_has ls 7 [(0, .ref b), (1, .ref o), (2, .ref mo), (3, .ref q), (4, .int (nI i))] → W p l e room_1 s m args below meth c H locs (cells + 1) (slots + 6) Q (F0 m 927 ls [])) : W p l e room_1 s m args below meth c H locs cells slots Q (F0 m 539 ls []) := by
  obtain ⟨hx, hb, hml, hown, hts⟩ := id hF
  refine lv_aload_n hx hb dL_law_539 rfl (lv_at hl 1 rfl) ?_
  refine lv_aload_n hx hb dL_law_540 rfl (lv_at hl 0 rfl) ?_
  refine lv_iload hx hb dL_law_541 (lv_at hl 4 rfl) ?_
  refine lv_iconst (v := nI 1) hx hb dL_law_543 (by decide) ?_
  refine lv_iadd hx hb dL_law_544 ?_
  refine zN (nI (i + 1)) (nI_add i 1) ?_
  refine z_sld hx hb hX hbl hbA hL hS (by omega) dL_law_545 ?_
  refine lv_aload_n hx hb dL_law_546 rfl (lv_at hl 3 rfl) ?_
  refine zK_sw (av := [.ref o, .int (xs (i + 1)), .ref q]) (rest := []) hF hW (vx_cwSW 3 hts gL_law_L_loudnessIn rfl rfl rfl (by decide +kernel) ⟨(Nat.le_of_ble_eq_true rfl), (Nat.le_of_ble_eq_true rfl)⟩) hK hP hD hS hA hE (isC := [0, 1, 2, 3, 4, 5, 6, 7, 8, 15]) (isR := [9, 10, 11, 12, 13, 14]) (perm := [6, 7, 8, 9, 10, 11, 12, 13, 14, 0, 1, 2, 3, 4, 5, 15]) (wr := wm cI mo lo li si sh ss n came2 c2 g2 lou D S shd shs th) (wN := wl cI cJ o h da la sa h2 da2 la2 sa2 mo lo li si sh ss q came1 u1 t1 n came2 c2 g2 lou D S shd shs th f1) ⟨rfl, by decide, rfl, by decide, by decide, rfl, by decide⟩ [0, 1] rfl rfl hl.1 rfl (Nat.le_of_ble_eq_true rfl) dL_law_547 ⟨hc, hs⟩ (fun H locs hP hD hS => ?_)
  refine lv_istore (lv' := [(5, .int (nI k)), (0, .ref b), (1, .ref o), (2, .ref mo), (3, .ref q), (4, .int (nI i))]) hx hb dL_law_550 hl (by decide) rfl (fun ls hl => ?_)
  refine lv_aload_n hx hb dL_law_552 rfl (lv_at hl 3 rfl) ?_
  refine lv_aload_n hx hb dL_law_553 rfl (lv_at hl 1 rfl) ?_
  refine lv_iload hx hb dL_law_554 (lv_at hl 5 rfl) ?_
  refine lv_iconst (v := nI 1) hx hb dL_law_556 (by decide) ?_
  refine lv_iadd hx hb dL_law_557 ?_
  refine zN (nI (i + 1)) (nI_add i 1) ?_
  refine z_sld hx hb hX hbl hbA hL hS (by omega) dL_law_558 ?_
  refine zK_vi (As := [.int (xs (i + 1))]) (rest := []) hF hM (cwV 1 hts gL_law_X2_loudnessIn rfl rfl rfl (by decide +kernel) ⟨(Nat.le_of_ble_eq_true rfl), (Nat.le_of_ble_eq_true rfl)⟩) hK hP hD hS hA (ci := 2) (q0 := 9) rfl rfl rfl (isC := [9, 10, 11, 12, 13, 14]) (isR := [0, 1, 2, 3, 4, 5, 6, 7, 8, 15]) (perm := [0, 1, 2, 3, 4, 5, 6, 7, 8, 10, 11, 12, 13, 14, 15, 9]) (wr := wx cI o h da la sa h2 da2 la2 sa2 came1 u1 t1 ++ wo cJ q f1) (wN := wl cI cJ o h da la sa h2 da2 la2 sa2 mo lo li si sh ss q came1 u1 t1 n1 came3 c3 g3 lou1 D1 S1 shd1 shs1 (nI k) f1) ⟨rfl, by decide, rfl, by decide, by decide, rfl, by decide⟩ [0] rfl rfl hl.1 rfl (Nat.le_of_ble_eq_true rfl) dL_law_559 ⟨(show cells + 1 + 0 ≤ 1052 by omega), (show slots + 6 + 0 ≤ 9420 by omega)⟩ (fun H locs hP hD hS => ?_)
  refine lv_istore (lv' := [(6, .int r), (5, .int (nI k)), (0, .ref b), (1, .ref o), (2, .ref mo), (3, .ref q), (4, .int (nI i))]) hx hb dL_law_562 hl (by decide) rfl (fun ls hl => ?_)
  refine lv_aload_n hx hb dL_law_564 rfl (lv_at hl 4 rfl) ?_
  refine zK_vi (As := []) (rest := []) hF (m_thrown l G cI mo lo li si sh ss n1 came3 c3 g3 lou1 D1 S1 shd1 shs1 (nI k)) (cwV 0 hts gL_law_X2_thrown rfl rfl rfl (by decide +kernel) ⟨(Nat.le_of_ble_eq_true rfl), (Nat.le_of_ble_eq_true rfl)⟩) hK hP hD hS hA (ci := 2) (q0 := 9) rfl rfl rfl (isC := [9, 10, 11, 12, 13, 14]) (isR := [0, 1, 2, 3, 4, 5, 6, 7, 8, 15]) (perm := [0, 1, 2, 3, 4, 5, 6, 7, 8, 10, 11, 12, 13, 14, 15, 9]) (wr := wx cI o h da la sa h2 da2 la2 sa2 came1 u1 t1 ++ wo cJ q f1) (wN := wl cI cJ o h da la sa h2 da2 la2 sa2 mo lo li si sh ss q came1 u1 t1 n1 came3 c3 g3 lou1 D1 S1 shd1 shs1 (nI k) f1) ⟨rfl, by decide, rfl, by decide, by decide, rfl, by decide⟩ [0] rfl rfl hl.1 rfl (Nat.le_of_ble_eq_true rfl) dL_law_565 ⟨(show cells + 1 + 0 ≤ 1052 by omega), (show slots + 6 + 0 ≤ 9420 by omega)⟩ (fun H locs hP hD hS => ?_)
  refine lv_iload hx hb dL_law_568 (lv_at hl 1 rfl) ?_
  refine lv_icmp_eq (tgt := 575) hx hb dL_law_570 (by decide) (fun hc9 => ?_) (fun hc9 => absurd rfl hc9)
  have hl9 := lv_sub hl [2, 3, 4, 5, 6] (l' := [(0, .ref b), (1, .ref o), (2, .ref mo), (3, .ref q), (4, .int (nI i))]) rfl
  refine lv_iload hx hb dL_law_575 (lv_at hl 1 rfl) ?_
  refine lv_if_ne (tgt := 592) hx hb dL_law_577 (by decide) (fun hc8 => ?_) (fun hc8 => ?_)
  · refine lv_goto (tgt := 927) hx hb dL_law_592 (by decide) ?_
    exact kk H locs ls hP hD hS hl9
  have hk := k0_eq (a := k) (by omega) hc8
  refine lv_aload_n hx hb dL_law_580 rfl (lv_at hl 5 rfl) ?_
  refine lv_iconst (v := 0) hx hb dL_law_581 (by decide) ?_
  refine va_lald (f := f1) (n := 1) (cA := cJ) hx hb hK hP 15 1 rfl rfl (by unfold vp_in; decide) dL_law_582 ?_
  refine lv_iload hx hb dL_law_583 (lv_at hl 0 rfl) ?_
  refine lv_i2l hx hb dL_law_585 rfl ?_
  refine W.lcmp hx hb dL_law_586 ?_
  have hq : lg_cmp (f1 (0 : Int32).toNatClampNeg) r.toInt64 = 0 := by rw [show (0 : Int32).toNatClampNeg = 0 from rfl, hk0 hk]; exact lgc_refl _
  refine lv_if_eq (tgt := 592) hx hb dL_law_587 (by decide) (fun hc9 => ?_) (fun hc9 => absurd hq hc9)
  refine lv_goto (tgt := 927) hx hb dL_law_592 (by decide) ?_
  exact kk H locs ls hP hD hS hl9
set_option maxHeartbeats 4000000 in
set_option maxRecDepth 100000 in
theorem k_sideOf (hF : CallFix p m c cL_law 7 s args wsL_law RL) (hA : ∀ q, s.heap.size ≤ q → A q) (cI cJ : ClassId) (hK : va_K G vwCl [(cI, .int), (cJ, .long)] s) (hE : zEnv A s s.heap) {b L : Nat} {xs : Nat → Int32} (hX : va_X b L xs s s.heap) (hbl : b < s.heap.size) (hbA : ¬ A b) (hL : L ≤ 2048) (o h da la sa h2 da2 la2 sa2 mo lo li si sh ss q : Nat) {came came1 : Nat} {u t u1 t1 : WH} {n came2 n1 came3 : Nat} {c2 g2 c3 g3 : Int32} {lou D S shd shs lou1 D1 S1 shd1 shs1 : Fn} {th th1 : Int32} {f f1 : Nat → Int64} (hP : va_P G vwCl (wl cI cJ o h da la sa h2 da2 la2 sa2 mo lo li si sh ss q came u t n came2 c2 g2 lou D S shd shs th f) H) (hD : va_D A (wl cI cJ o h da la sa h2 da2 la2 sa2 mo lo li si sh ss q came u t n came2 c2 g2 lou D S shd shs th f)) (hS : va_S A s.heap H locs) (hc : cells + 1 ≤ 1052) (hs : slots + 6 ≤ 9420) {ls : Array Slot} {i : Nat} (hi : i + 4 ≤ L) (hl : lv_has ls 7 [(0, .ref b), (1, .ref o), (2, .ref mo), (3, .ref q), (4, .int (nI i))]) {k : Nat} (hk2 : k ≤ 2) {r : Int32} (hW : zY_i l yL_sideOf wsL_sideOf ({ frames := 8, cells := 1, slots := 6, locals := 200 }) G [(cI, .int), (cJ, .long)] (wx cI o h da la sa h2 da2 la2 sa2 came u t ++ wo cJ q f) (wx cI o h da la sa h2 da2 la2 sa2 came1 u1 t1 ++ wo cJ q f1) [.ref o, .int (xs (i + 1)), .ref q] 1 6 (nI k)) (hM : zC_i l yX2_sideOf wsX2_sideOf ({ frames := 2, cells := 0, slots := 0, locals := 43 }) G [(cI, .int)] (wm cI mo lo li si sh ss n came2 c2 g2 lou D S shd shs th) (wm cI mo lo li si sh ss n1 came3 c3 g3 lou1 D1 S1 shd1 shs1 (nI k)) [.ref mo, .int (xs (i + 1))] r) (hk0 : k = 0 → f1 0 = r.toInt64) (kk : ∀ (H : Heap) (locs : List Loc) (ls : Array Slot), va_P G vwCl (wl cI cJ o h da la sa h2 da2 la2 sa2 mo lo li si sh ss q came1 u1 t1 n1 came3 c3 g3 lou1 D1 S1 shd1 shs1 (nI k) f1) H → va_D A (wl cI cJ o h da la sa h2 da2 la2 sa2 mo lo li si sh ss q came1 u1 t1 n1 came3 c3 g3 lou1 D1 S1 shd1 shs1 (nI k) f1) → va_S A s.heap H locs → lv_has ls 7 [(0, .ref b), (1, .ref o), (2, .ref mo), (3, .ref q), (4, .int (nI i))] → W p l e room_1 s m args below meth c H locs (cells + 1) (slots + 6) Q (F0 m 927 ls [])) : W p l e room_1 s m args below meth c H locs cells slots Q (F0 m 595 ls []) := by
  obtain ⟨hx, hb, hml, hown, hts⟩ := id hF
  refine lv_aload_n hx hb dL_law_595 rfl (lv_at hl 1 rfl) ?_
  refine lv_aload_n hx hb dL_law_596 rfl (lv_at hl 0 rfl) ?_
  refine lv_iload hx hb dL_law_597 (lv_at hl 4 rfl) ?_
  refine lv_iconst (v := nI 1) hx hb dL_law_599 (by decide) ?_
  refine lv_iadd hx hb dL_law_600 ?_
  refine zN (nI (i + 1)) (nI_add i 1) ?_
  refine z_sld hx hb hX hbl hbA hL hS (by omega) dL_law_601 ?_
  refine lv_aload_n hx hb dL_law_602 rfl (lv_at hl 3 rfl) ?_
  refine zK_sw (av := [.ref o, .int (xs (i + 1)), .ref q]) (rest := []) hF hW (vx_cwSW 3 hts gL_law_L_sideOf rfl rfl rfl (by decide +kernel) ⟨(Nat.le_of_ble_eq_true rfl), (Nat.le_of_ble_eq_true rfl)⟩) hK hP hD hS hA hE (isC := [0, 1, 2, 3, 4, 5, 6, 7, 8, 15]) (isR := [9, 10, 11, 12, 13, 14]) (perm := [6, 7, 8, 9, 10, 11, 12, 13, 14, 0, 1, 2, 3, 4, 5, 15]) (wr := wm cI mo lo li si sh ss n came2 c2 g2 lou D S shd shs th) (wN := wl cI cJ o h da la sa h2 da2 la2 sa2 mo lo li si sh ss q came1 u1 t1 n came2 c2 g2 lou D S shd shs th f1) ⟨rfl, by decide, rfl, by decide, by decide, rfl, by decide⟩ [0, 1] rfl rfl hl.1 rfl (Nat.le_of_ble_eq_true rfl) dL_law_603 ⟨hc, hs⟩ (fun H locs hP hD hS => ?_)
  refine lv_istore (lv' := [(5, .int (nI k)), (0, .ref b), (1, .ref o), (2, .ref mo), (3, .ref q), (4, .int (nI i))]) hx hb dL_law_606 hl (by decide) rfl (fun ls hl => ?_)
  refine lv_aload_n hx hb dL_law_608 rfl (lv_at hl 3 rfl) ?_
  refine lv_aload_n hx hb dL_law_609 rfl (lv_at hl 1 rfl) ?_
  refine lv_iload hx hb dL_law_610 (lv_at hl 5 rfl) ?_
  refine lv_iconst (v := nI 1) hx hb dL_law_612 (by decide) ?_
  refine lv_iadd hx hb dL_law_613 ?_
  refine zN (nI (i + 1)) (nI_add i 1) ?_
  refine z_sld hx hb hX hbl hbA hL hS (by omega) dL_law_614 ?_
  refine zK_vi (As := [.int (xs (i + 1))]) (rest := []) hF hM (cwV 1 hts gL_law_X2_sideOf rfl rfl rfl (by decide +kernel) ⟨(Nat.le_of_ble_eq_true rfl), (Nat.le_of_ble_eq_true rfl)⟩) hK hP hD hS hA (ci := 2) (q0 := 9) rfl rfl rfl (isC := [9, 10, 11, 12, 13, 14]) (isR := [0, 1, 2, 3, 4, 5, 6, 7, 8, 15]) (perm := [0, 1, 2, 3, 4, 5, 6, 7, 8, 10, 11, 12, 13, 14, 15, 9]) (wr := wx cI o h da la sa h2 da2 la2 sa2 came1 u1 t1 ++ wo cJ q f1) (wN := wl cI cJ o h da la sa h2 da2 la2 sa2 mo lo li si sh ss q came1 u1 t1 n1 came3 c3 g3 lou1 D1 S1 shd1 shs1 (nI k) f1) ⟨rfl, by decide, rfl, by decide, by decide, rfl, by decide⟩ [0] rfl rfl hl.1 rfl (Nat.le_of_ble_eq_true rfl) dL_law_615 ⟨(show cells + 1 + 0 ≤ 1052 by omega), (show slots + 6 + 0 ≤ 9420 by omega)⟩ (fun H locs hP hD hS => ?_)
  refine lv_istore (lv' := [(6, .int r), (5, .int (nI k)), (0, .ref b), (1, .ref o), (2, .ref mo), (3, .ref q), (4, .int (nI i))]) hx hb dL_law_618 hl (by decide) rfl (fun ls hl => ?_)
  refine lv_aload_n hx hb dL_law_620 rfl (lv_at hl 4 rfl) ?_
  refine zK_vi (As := []) (rest := []) hF (m_thrown l G cI mo lo li si sh ss n1 came3 c3 g3 lou1 D1 S1 shd1 shs1 (nI k)) (cwV 0 hts gL_law_X2_thrown rfl rfl rfl (by decide +kernel) ⟨(Nat.le_of_ble_eq_true rfl), (Nat.le_of_ble_eq_true rfl)⟩) hK hP hD hS hA (ci := 2) (q0 := 9) rfl rfl rfl (isC := [9, 10, 11, 12, 13, 14]) (isR := [0, 1, 2, 3, 4, 5, 6, 7, 8, 15]) (perm := [0, 1, 2, 3, 4, 5, 6, 7, 8, 10, 11, 12, 13, 14, 15, 9]) (wr := wx cI o h da la sa h2 da2 la2 sa2 came1 u1 t1 ++ wo cJ q f1) (wN := wl cI cJ o h da la sa h2 da2 la2 sa2 mo lo li si sh ss q came1 u1 t1 n1 came3 c3 g3 lou1 D1 S1 shd1 shs1 (nI k) f1) ⟨rfl, by decide, rfl, by decide, by decide, rfl, by decide⟩ [0] rfl rfl hl.1 rfl (Nat.le_of_ble_eq_true rfl) dL_law_621 ⟨(show cells + 1 + 0 ≤ 1052 by omega), (show slots + 6 + 0 ≤ 9420 by omega)⟩ (fun H locs hP hD hS => ?_)
  refine lv_iload hx hb dL_law_624 (lv_at hl 1 rfl) ?_
  refine lv_icmp_eq (tgt := 631) hx hb dL_law_626 (by decide) (fun hc9 => ?_) (fun hc9 => absurd rfl hc9)
  have hl9 := lv_sub hl [2, 3, 4, 5, 6] (l' := [(0, .ref b), (1, .ref o), (2, .ref mo), (3, .ref q), (4, .int (nI i))]) rfl
  refine lv_iload hx hb dL_law_631 (lv_at hl 1 rfl) ?_
  refine lv_if_ne (tgt := 648) hx hb dL_law_633 (by decide) (fun hc8 => ?_) (fun hc8 => ?_)
  · refine lv_goto (tgt := 927) hx hb dL_law_648 (by decide) ?_
    exact kk H locs ls hP hD hS hl9
  have hk := k0_eq (a := k) (by omega) hc8
  refine lv_aload_n hx hb dL_law_636 rfl (lv_at hl 5 rfl) ?_
  refine lv_iconst (v := 0) hx hb dL_law_637 (by decide) ?_
  refine va_lald (f := f1) (n := 1) (cA := cJ) hx hb hK hP 15 1 rfl rfl (by unfold vp_in; decide) dL_law_638 ?_
  refine lv_iload hx hb dL_law_639 (lv_at hl 0 rfl) ?_
  refine lv_i2l hx hb dL_law_641 rfl ?_
  refine W.lcmp hx hb dL_law_642 ?_
  have hq : lg_cmp (f1 (0 : Int32).toNatClampNeg) r.toInt64 = 0 := by rw [show (0 : Int32).toNatClampNeg = 0 from rfl, hk0 hk]; exact lgc_refl _
  refine lv_if_eq (tgt := 648) hx hb dL_law_643 (by decide) (fun hc9 => ?_) (fun hc9 => absurd hq hc9)
  refine lv_goto (tgt := 927) hx hb dL_law_648 (by decide) ?_
  exact kk H locs ls hP hD hS hl9
set_option maxHeartbeats 4000000 in
set_option maxRecDepth 100000 in
theorem k_elderOf (hF : CallFix p m c cL_law 7 s args wsL_law RL) (hA : ∀ q, s.heap.size ≤ q → A q) (cI cJ : ClassId) (hK : va_K G vwCl [(cI, .int), (cJ, .long)] s) (hE : zEnv A s s.heap) {b L : Nat} {xs : Nat → Int32} (hX : va_X b L xs s s.heap) (hbl : b < s.heap.size) (hbA : ¬ A b) (hL : L ≤ 2048) (o h da la sa h2 da2 la2 sa2 mo lo li si sh ss q : Nat) {came came1 : Nat} {u t u1 t1 : WH} {n came2 n1 came3 : Nat} {c2 g2 c3 g3 : Int32} {lou D S shd shs lou1 D1 S1 shd1 shs1 : Fn} {th th1 : Int32} {f f1 : Nat → Int64} (hP : va_P G vwCl (wl cI cJ o h da la sa h2 da2 la2 sa2 mo lo li si sh ss q came u t n came2 c2 g2 lou D S shd shs th f) H) (hD : va_D A (wl cI cJ o h da la sa h2 da2 la2 sa2 mo lo li si sh ss q came u t n came2 c2 g2 lou D S shd shs th f)) (hS : va_S A s.heap H locs) (hc : cells + 1 ≤ 1052) (hs : slots + 6 ≤ 9420) {ls : Array Slot} {i : Nat} (hi : i + 4 ≤ L) (hl : lv_has ls 7 [(0, .ref b), (1, .ref o), (2, .ref mo), (3, .ref q), (4, .int (nI i))]) {k : Nat} (hk2 : k ≤ 2) {r : Int32} (hW : zY_i l yL_elderOf wsL_elderOf ({ frames := 8, cells := 1, slots := 6, locals := 200 }) G [(cI, .int), (cJ, .long)] (wx cI o h da la sa h2 da2 la2 sa2 came u t ++ wo cJ q f) (wx cI o h da la sa h2 da2 la2 sa2 came1 u1 t1 ++ wo cJ q f1) [.ref o, .int (xs (i + 1)), .ref q] 1 6 (nI k)) (hM : zC_i l yX2_elderOf wsX2_elderOf ({ frames := 2, cells := 0, slots := 0, locals := 43 }) G [(cI, .int)] (wm cI mo lo li si sh ss n came2 c2 g2 lou D S shd shs th) (wm cI mo lo li si sh ss n1 came3 c3 g3 lou1 D1 S1 shd1 shs1 (nI k)) [.ref mo, .int (xs (i + 1))] r) (hk0 : k = 0 → f1 0 = r.toInt64) (kk : ∀ (H : Heap) (locs : List Loc) (ls : Array Slot), va_P G vwCl (wl cI cJ o h da la sa h2 da2 la2 sa2 mo lo li si sh ss q came1 u1 t1 n1 came3 c3 g3 lou1 D1 S1 shd1 shs1 (nI k) f1) H → va_D A (wl cI cJ o h da la sa h2 da2 la2 sa2 mo lo li si sh ss q came1 u1 t1 n1 came3 c3 g3 lou1 D1 S1 shd1 shs1 (nI k) f1) → va_S A s.heap H locs → lv_has ls 7 [(0, .ref b), (1, .ref o), (2, .ref mo), (3, .ref q), (4, .int (nI i))] → W p l e room_1 s m args below meth c H locs (cells + 1) (slots + 6) Q (F0 m 927 ls [])) : W p l e room_1 s m args below meth c H locs cells slots Q (F0 m 651 ls []) := by
  obtain ⟨hx, hb, hml, hown, hts⟩ := id hF
  refine lv_aload_n hx hb dL_law_651 rfl (lv_at hl 1 rfl) ?_
  refine lv_aload_n hx hb dL_law_652 rfl (lv_at hl 0 rfl) ?_
  refine lv_iload hx hb dL_law_653 (lv_at hl 4 rfl) ?_
  refine lv_iconst (v := nI 1) hx hb dL_law_655 (by decide) ?_
  refine lv_iadd hx hb dL_law_656 ?_
  refine zN (nI (i + 1)) (nI_add i 1) ?_
  refine z_sld hx hb hX hbl hbA hL hS (by omega) dL_law_657 ?_
  refine lv_aload_n hx hb dL_law_658 rfl (lv_at hl 3 rfl) ?_
  refine zK_sw (av := [.ref o, .int (xs (i + 1)), .ref q]) (rest := []) hF hW (vx_cwSW 3 hts gL_law_L_elderOf rfl rfl rfl (by decide +kernel) ⟨(Nat.le_of_ble_eq_true rfl), (Nat.le_of_ble_eq_true rfl)⟩) hK hP hD hS hA hE (isC := [0, 1, 2, 3, 4, 5, 6, 7, 8, 15]) (isR := [9, 10, 11, 12, 13, 14]) (perm := [6, 7, 8, 9, 10, 11, 12, 13, 14, 0, 1, 2, 3, 4, 5, 15]) (wr := wm cI mo lo li si sh ss n came2 c2 g2 lou D S shd shs th) (wN := wl cI cJ o h da la sa h2 da2 la2 sa2 mo lo li si sh ss q came1 u1 t1 n came2 c2 g2 lou D S shd shs th f1) ⟨rfl, by decide, rfl, by decide, by decide, rfl, by decide⟩ [0, 1] rfl rfl hl.1 rfl (Nat.le_of_ble_eq_true rfl) dL_law_659 ⟨hc, hs⟩ (fun H locs hP hD hS => ?_)
  refine lv_istore (lv' := [(5, .int (nI k)), (0, .ref b), (1, .ref o), (2, .ref mo), (3, .ref q), (4, .int (nI i))]) hx hb dL_law_662 hl (by decide) rfl (fun ls hl => ?_)
  refine lv_aload_n hx hb dL_law_664 rfl (lv_at hl 3 rfl) ?_
  refine lv_aload_n hx hb dL_law_665 rfl (lv_at hl 1 rfl) ?_
  refine lv_iload hx hb dL_law_666 (lv_at hl 5 rfl) ?_
  refine lv_iconst (v := nI 1) hx hb dL_law_668 (by decide) ?_
  refine lv_iadd hx hb dL_law_669 ?_
  refine zN (nI (i + 1)) (nI_add i 1) ?_
  refine z_sld hx hb hX hbl hbA hL hS (by omega) dL_law_670 ?_
  refine zK_vi (As := [.int (xs (i + 1))]) (rest := []) hF hM (cwV 1 hts gL_law_X2_elderOf rfl rfl rfl (by decide +kernel) ⟨(Nat.le_of_ble_eq_true rfl), (Nat.le_of_ble_eq_true rfl)⟩) hK hP hD hS hA (ci := 2) (q0 := 9) rfl rfl rfl (isC := [9, 10, 11, 12, 13, 14]) (isR := [0, 1, 2, 3, 4, 5, 6, 7, 8, 15]) (perm := [0, 1, 2, 3, 4, 5, 6, 7, 8, 10, 11, 12, 13, 14, 15, 9]) (wr := wx cI o h da la sa h2 da2 la2 sa2 came1 u1 t1 ++ wo cJ q f1) (wN := wl cI cJ o h da la sa h2 da2 la2 sa2 mo lo li si sh ss q came1 u1 t1 n1 came3 c3 g3 lou1 D1 S1 shd1 shs1 (nI k) f1) ⟨rfl, by decide, rfl, by decide, by decide, rfl, by decide⟩ [0] rfl rfl hl.1 rfl (Nat.le_of_ble_eq_true rfl) dL_law_671 ⟨(show cells + 1 + 0 ≤ 1052 by omega), (show slots + 6 + 0 ≤ 9420 by omega)⟩ (fun H locs hP hD hS => ?_)
  refine lv_istore (lv' := [(6, .int r), (5, .int (nI k)), (0, .ref b), (1, .ref o), (2, .ref mo), (3, .ref q), (4, .int (nI i))]) hx hb dL_law_674 hl (by decide) rfl (fun ls hl => ?_)
  refine lv_aload_n hx hb dL_law_676 rfl (lv_at hl 4 rfl) ?_
  refine zK_vi (As := []) (rest := []) hF (m_thrown l G cI mo lo li si sh ss n1 came3 c3 g3 lou1 D1 S1 shd1 shs1 (nI k)) (cwV 0 hts gL_law_X2_thrown rfl rfl rfl (by decide +kernel) ⟨(Nat.le_of_ble_eq_true rfl), (Nat.le_of_ble_eq_true rfl)⟩) hK hP hD hS hA (ci := 2) (q0 := 9) rfl rfl rfl (isC := [9, 10, 11, 12, 13, 14]) (isR := [0, 1, 2, 3, 4, 5, 6, 7, 8, 15]) (perm := [0, 1, 2, 3, 4, 5, 6, 7, 8, 10, 11, 12, 13, 14, 15, 9]) (wr := wx cI o h da la sa h2 da2 la2 sa2 came1 u1 t1 ++ wo cJ q f1) (wN := wl cI cJ o h da la sa h2 da2 la2 sa2 mo lo li si sh ss q came1 u1 t1 n1 came3 c3 g3 lou1 D1 S1 shd1 shs1 (nI k) f1) ⟨rfl, by decide, rfl, by decide, by decide, rfl, by decide⟩ [0] rfl rfl hl.1 rfl (Nat.le_of_ble_eq_true rfl) dL_law_677 ⟨(show cells + 1 + 0 ≤ 1052 by omega), (show slots + 6 + 0 ≤ 9420 by omega)⟩ (fun H locs hP hD hS => ?_)
  refine lv_iload hx hb dL_law_680 (lv_at hl 1 rfl) ?_
  refine lv_icmp_eq (tgt := 687) hx hb dL_law_682 (by decide) (fun hc9 => ?_) (fun hc9 => absurd rfl hc9)
  have hl9 := lv_sub hl [2, 3, 4, 5, 6] (l' := [(0, .ref b), (1, .ref o), (2, .ref mo), (3, .ref q), (4, .int (nI i))]) rfl
  refine lv_iload hx hb dL_law_687 (lv_at hl 1 rfl) ?_
  refine lv_if_ne (tgt := 704) hx hb dL_law_689 (by decide) (fun hc8 => ?_) (fun hc8 => ?_)
  · refine lv_goto (tgt := 927) hx hb dL_law_704 (by decide) ?_
    exact kk H locs ls hP hD hS hl9
  have hk := k0_eq (a := k) (by omega) hc8
  refine lv_aload_n hx hb dL_law_692 rfl (lv_at hl 5 rfl) ?_
  refine lv_iconst (v := 0) hx hb dL_law_693 (by decide) ?_
  refine va_lald (f := f1) (n := 1) (cA := cJ) hx hb hK hP 15 1 rfl rfl (by unfold vp_in; decide) dL_law_694 ?_
  refine lv_iload hx hb dL_law_695 (lv_at hl 0 rfl) ?_
  refine lv_i2l hx hb dL_law_697 rfl ?_
  refine W.lcmp hx hb dL_law_698 ?_
  have hq : lg_cmp (f1 (0 : Int32).toNatClampNeg) r.toInt64 = 0 := by rw [show (0 : Int32).toNatClampNeg = 0 from rfl, hk0 hk]; exact lgc_refl _
  refine lv_if_eq (tgt := 704) hx hb dL_law_699 (by decide) (fun hc9 => ?_) (fun hc9 => absurd hq hc9)
  refine lv_goto (tgt := 927) hx hb dL_law_704 (by decide) ?_
  exact kk H locs ls hP hD hS hl9
set_option maxHeartbeats 4000000 in
set_option maxRecDepth 100000 in
theorem k_followersOf (hF : CallFix p m c cL_law 7 s args wsL_law RL) (hA : ∀ q, s.heap.size ≤ q → A q) (cI cJ : ClassId) (hK : va_K G vwCl [(cI, .int), (cJ, .long)] s) (hE : zEnv A s s.heap) {b L : Nat} {xs : Nat → Int32} (hX : va_X b L xs s s.heap) (hbl : b < s.heap.size) (hbA : ¬ A b) (hL : L ≤ 2048) (o h da la sa h2 da2 la2 sa2 mo lo li si sh ss q : Nat) {came came1 : Nat} {u t u1 t1 : WH} {n came2 n1 came3 : Nat} {c2 g2 c3 g3 : Int32} {lou D S shd shs lou1 D1 S1 shd1 shs1 : Fn} {th th1 : Int32} {f f1 : Nat → Int64} (hP : va_P G vwCl (wl cI cJ o h da la sa h2 da2 la2 sa2 mo lo li si sh ss q came u t n came2 c2 g2 lou D S shd shs th f) H) (hD : va_D A (wl cI cJ o h da la sa h2 da2 la2 sa2 mo lo li si sh ss q came u t n came2 c2 g2 lou D S shd shs th f)) (hS : va_S A s.heap H locs) (hc : cells + 1 ≤ 1052) (hs : slots + 6 ≤ 9420) {ls : Array Slot} {i : Nat} (hi : i + 4 ≤ L) (hl : lv_has ls 7 [(0, .ref b), (1, .ref o), (2, .ref mo), (3, .ref q), (4, .int (nI i))]) {k : Nat} (hk2 : k ≤ 2) {r : Int32} (hW : zY_i l yL_followersOf wsL_followersOf ({ frames := 8, cells := 1, slots := 6, locals := 200 }) G [(cI, .int), (cJ, .long)] (wx cI o h da la sa h2 da2 la2 sa2 came u t ++ wo cJ q f) (wx cI o h da la sa h2 da2 la2 sa2 came1 u1 t1 ++ wo cJ q f1) [.ref o, .int (xs (i + 1)), .ref q] 1 6 (nI k)) (hM : zC_i l yX2_followersOf wsX2_followersOf ({ frames := 2, cells := 0, slots := 0, locals := 43 }) G [(cI, .int)] (wm cI mo lo li si sh ss n came2 c2 g2 lou D S shd shs th) (wm cI mo lo li si sh ss n1 came3 c3 g3 lou1 D1 S1 shd1 shs1 (nI k)) [.ref mo, .int (xs (i + 1))] r) (hk0 : k = 0 → f1 0 = r.toInt64) (kk : ∀ (H : Heap) (locs : List Loc) (ls : Array Slot), va_P G vwCl (wl cI cJ o h da la sa h2 da2 la2 sa2 mo lo li si sh ss q came1 u1 t1 n1 came3 c3 g3 lou1 D1 S1 shd1 shs1 (nI k) f1) H → va_D A (wl cI cJ o h da la sa h2 da2 la2 sa2 mo lo li si sh ss q came1 u1 t1 n1 came3 c3 g3 lou1 D1 S1 shd1 shs1 (nI k) f1) → va_S A s.heap H locs → lv_has ls 7 [(0, .ref b), (1, .ref o), (2, .ref mo), (3, .ref q), (4, .int (nI i))] → W p l e room_1 s m args below meth c H locs (cells + 1) (slots + 6) Q (F0 m 927 ls [])) : W p l e room_1 s m args below meth c H locs cells slots Q (F0 m 707 ls []) := by
  obtain ⟨hx, hb, hml, hown, hts⟩ := id hF
  refine lv_aload_n hx hb dL_law_707 rfl (lv_at hl 1 rfl) ?_
  refine lv_aload_n hx hb dL_law_708 rfl (lv_at hl 0 rfl) ?_
  refine lv_iload hx hb dL_law_709 (lv_at hl 4 rfl) ?_
  refine lv_iconst (v := nI 1) hx hb dL_law_711 (by decide) ?_
  refine lv_iadd hx hb dL_law_712 ?_
  refine zN (nI (i + 1)) (nI_add i 1) ?_
  refine z_sld hx hb hX hbl hbA hL hS (by omega) dL_law_713 ?_
  refine lv_aload_n hx hb dL_law_714 rfl (lv_at hl 3 rfl) ?_
  refine zK_sw (av := [.ref o, .int (xs (i + 1)), .ref q]) (rest := []) hF hW (vx_cwSW 3 hts gL_law_L_followersOf rfl rfl rfl (by decide +kernel) ⟨(Nat.le_of_ble_eq_true rfl), (Nat.le_of_ble_eq_true rfl)⟩) hK hP hD hS hA hE (isC := [0, 1, 2, 3, 4, 5, 6, 7, 8, 15]) (isR := [9, 10, 11, 12, 13, 14]) (perm := [6, 7, 8, 9, 10, 11, 12, 13, 14, 0, 1, 2, 3, 4, 5, 15]) (wr := wm cI mo lo li si sh ss n came2 c2 g2 lou D S shd shs th) (wN := wl cI cJ o h da la sa h2 da2 la2 sa2 mo lo li si sh ss q came1 u1 t1 n came2 c2 g2 lou D S shd shs th f1) ⟨rfl, by decide, rfl, by decide, by decide, rfl, by decide⟩ [0, 1] rfl rfl hl.1 rfl (Nat.le_of_ble_eq_true rfl) dL_law_715 ⟨hc, hs⟩ (fun H locs hP hD hS => ?_)
  refine lv_istore (lv' := [(5, .int (nI k)), (0, .ref b), (1, .ref o), (2, .ref mo), (3, .ref q), (4, .int (nI i))]) hx hb dL_law_718 hl (by decide) rfl (fun ls hl => ?_)
  refine lv_aload_n hx hb dL_law_720 rfl (lv_at hl 3 rfl) ?_
  refine lv_aload_n hx hb dL_law_721 rfl (lv_at hl 1 rfl) ?_
  refine lv_iload hx hb dL_law_722 (lv_at hl 5 rfl) ?_
  refine lv_iconst (v := nI 1) hx hb dL_law_724 (by decide) ?_
  refine lv_iadd hx hb dL_law_725 ?_
  refine zN (nI (i + 1)) (nI_add i 1) ?_
  refine z_sld hx hb hX hbl hbA hL hS (by omega) dL_law_726 ?_
  refine zK_vi (As := [.int (xs (i + 1))]) (rest := []) hF hM (cwV 1 hts gL_law_X2_followersOf rfl rfl rfl (by decide +kernel) ⟨(Nat.le_of_ble_eq_true rfl), (Nat.le_of_ble_eq_true rfl)⟩) hK hP hD hS hA (ci := 2) (q0 := 9) rfl rfl rfl (isC := [9, 10, 11, 12, 13, 14]) (isR := [0, 1, 2, 3, 4, 5, 6, 7, 8, 15]) (perm := [0, 1, 2, 3, 4, 5, 6, 7, 8, 10, 11, 12, 13, 14, 15, 9]) (wr := wx cI o h da la sa h2 da2 la2 sa2 came1 u1 t1 ++ wo cJ q f1) (wN := wl cI cJ o h da la sa h2 da2 la2 sa2 mo lo li si sh ss q came1 u1 t1 n1 came3 c3 g3 lou1 D1 S1 shd1 shs1 (nI k) f1) ⟨rfl, by decide, rfl, by decide, by decide, rfl, by decide⟩ [0] rfl rfl hl.1 rfl (Nat.le_of_ble_eq_true rfl) dL_law_727 ⟨(show cells + 1 + 0 ≤ 1052 by omega), (show slots + 6 + 0 ≤ 9420 by omega)⟩ (fun H locs hP hD hS => ?_)
  refine lv_istore (lv' := [(6, .int r), (5, .int (nI k)), (0, .ref b), (1, .ref o), (2, .ref mo), (3, .ref q), (4, .int (nI i))]) hx hb dL_law_730 hl (by decide) rfl (fun ls hl => ?_)
  refine lv_aload_n hx hb dL_law_732 rfl (lv_at hl 4 rfl) ?_
  refine zK_vi (As := []) (rest := []) hF (m_thrown l G cI mo lo li si sh ss n1 came3 c3 g3 lou1 D1 S1 shd1 shs1 (nI k)) (cwV 0 hts gL_law_X2_thrown rfl rfl rfl (by decide +kernel) ⟨(Nat.le_of_ble_eq_true rfl), (Nat.le_of_ble_eq_true rfl)⟩) hK hP hD hS hA (ci := 2) (q0 := 9) rfl rfl rfl (isC := [9, 10, 11, 12, 13, 14]) (isR := [0, 1, 2, 3, 4, 5, 6, 7, 8, 15]) (perm := [0, 1, 2, 3, 4, 5, 6, 7, 8, 10, 11, 12, 13, 14, 15, 9]) (wr := wx cI o h da la sa h2 da2 la2 sa2 came1 u1 t1 ++ wo cJ q f1) (wN := wl cI cJ o h da la sa h2 da2 la2 sa2 mo lo li si sh ss q came1 u1 t1 n1 came3 c3 g3 lou1 D1 S1 shd1 shs1 (nI k) f1) ⟨rfl, by decide, rfl, by decide, by decide, rfl, by decide⟩ [0] rfl rfl hl.1 rfl (Nat.le_of_ble_eq_true rfl) dL_law_733 ⟨(show cells + 1 + 0 ≤ 1052 by omega), (show slots + 6 + 0 ≤ 9420 by omega)⟩ (fun H locs hP hD hS => ?_)
  refine lv_iload hx hb dL_law_736 (lv_at hl 1 rfl) ?_
  refine lv_icmp_eq (tgt := 743) hx hb dL_law_738 (by decide) (fun hc9 => ?_) (fun hc9 => absurd rfl hc9)
  have hl9 := lv_sub hl [2, 3, 4, 5, 6] (l' := [(0, .ref b), (1, .ref o), (2, .ref mo), (3, .ref q), (4, .int (nI i))]) rfl
  refine lv_iload hx hb dL_law_743 (lv_at hl 1 rfl) ?_
  refine lv_if_ne (tgt := 760) hx hb dL_law_745 (by decide) (fun hc8 => ?_) (fun hc8 => ?_)
  · refine lv_goto (tgt := 927) hx hb dL_law_760 (by decide) ?_
    exact kk H locs ls hP hD hS hl9
  have hk := k0_eq (a := k) (by omega) hc8
  refine lv_aload_n hx hb dL_law_748 rfl (lv_at hl 5 rfl) ?_
  refine lv_iconst (v := 0) hx hb dL_law_749 (by decide) ?_
  refine va_lald (f := f1) (n := 1) (cA := cJ) hx hb hK hP 15 1 rfl rfl (by unfold vp_in; decide) dL_law_750 ?_
  refine lv_iload hx hb dL_law_751 (lv_at hl 0 rfl) ?_
  refine lv_i2l hx hb dL_law_753 rfl ?_
  refine W.lcmp hx hb dL_law_754 ?_
  have hq : lg_cmp (f1 (0 : Int32).toNatClampNeg) r.toInt64 = 0 := by rw [show (0 : Int32).toNatClampNeg = 0 from rfl, hk0 hk]; exact lgc_refl _
  refine lv_if_eq (tgt := 760) hx hb dL_law_755 (by decide) (fun hc9 => ?_) (fun hc9 => absurd hq hc9)
  refine lv_goto (tgt := 927) hx hb dL_law_760 (by decide) ?_
  exact kk H locs ls hP hD hS hl9
set_option maxHeartbeats 4000000 in
set_option maxRecDepth 100000 in
theorem k_flipped (hF : CallFix p m c cL_law 7 s args wsL_law RL) (hA : ∀ q, s.heap.size ≤ q → A q) (cI cJ : ClassId) (hK : va_K G vwCl [(cI, .int), (cJ, .long)] s) (hE : zEnv A s s.heap) {b L : Nat} {xs : Nat → Int32} (hX : va_X b L xs s s.heap) (hbl : b < s.heap.size) (hbA : ¬ A b) (hL : L ≤ 2048) (o h da la sa h2 da2 la2 sa2 mo lo li si sh ss q : Nat) {came came1 : Nat} {u t u1 t1 : WH} {n came2 n1 came3 : Nat} {c2 g2 c3 g3 : Int32} {lou D S shd shs lou1 D1 S1 shd1 shs1 : Fn} {th th1 : Int32} {f f1 : Nat → Int64} (hP : va_P G vwCl (wl cI cJ o h da la sa h2 da2 la2 sa2 mo lo li si sh ss q came u t n came2 c2 g2 lou D S shd shs th f) H) (hD : va_D A (wl cI cJ o h da la sa h2 da2 la2 sa2 mo lo li si sh ss q came u t n came2 c2 g2 lou D S shd shs th f)) (hS : va_S A s.heap H locs) (hc : cells + 1 ≤ 1052) (hs : slots + 6 ≤ 9420) {ls : Array Slot} {i : Nat} (hi : i + 4 ≤ L) (hl : lv_has ls 7 [(0, .ref b), (1, .ref o), (2, .ref mo), (3, .ref q), (4, .int (nI i))]) {r : Int32} (hW : zY_i l yX1_flipped wsX1_flipped ({ frames := 3, cells := 0, slots := 0, locals := 64 }) G [(cI, .int)] (wx cI o h da la sa h2 da2 la2 sa2 came u t) (wx cI o h da la sa h2 da2 la2 sa2 came1 u1 t1) [.ref o] 0 0 r) (hM : zC_i l yX2_flipped wsX2_flipped ({ frames := 0, cells := 0, slots := 0, locals := 0 }) G [(cI, .int)] (wm cI mo lo li si sh ss n came2 c2 g2 lou D S shd shs th) (wm cI mo lo li si sh ss n1 came3 c3 g3 lou1 D1 S1 shd1 shs1 th1) [.ref mo] r) (kk : ∀ (H : Heap) (locs : List Loc) (ls : Array Slot), va_P G vwCl (wl cI cJ o h da la sa h2 da2 la2 sa2 mo lo li si sh ss q came1 u1 t1 n1 came3 c3 g3 lou1 D1 S1 shd1 shs1 th1 f) H → va_D A (wl cI cJ o h da la sa h2 da2 la2 sa2 mo lo li si sh ss q came1 u1 t1 n1 came3 c3 g3 lou1 D1 S1 shd1 shs1 th1 f) → va_S A s.heap H locs → lv_has ls 7 [(0, .ref b), (1, .ref o), (2, .ref mo), (3, .ref q), (4, .int (nI i))] → W p l e room_1 s m args below meth c H locs (cells + 1) (slots + 6) Q (F0 m 927 ls [])) : W p l e room_1 s m args below meth c H locs cells slots Q (F0 m 763 ls []) := by
  obtain ⟨hx, hb, hml, hown, hts⟩ := id hF
  refine lv_aload_n hx hb dL_law_763 rfl (lv_at hl 1 rfl) ?_
  refine zK_vy (As := []) (rest := []) hF hW (cwV 0 hts gL_law_X1_flipped rfl rfl rfl (by decide +kernel) ⟨(Nat.le_of_ble_eq_true rfl), (Nat.le_of_ble_eq_true rfl)⟩) hK hP hD hS hA hE (ci := 1) (q0 := 0) rfl rfl rfl (isC := [0, 1, 2, 3, 4, 5, 6, 7, 8]) (isR := [9, 10, 11, 12, 13, 14, 15]) (perm := [7, 8, 9, 10, 11, 12, 13, 14, 15, 0, 1, 2, 3, 4, 5, 6]) (wr := wm cI mo lo li si sh ss n came2 c2 g2 lou D S shd shs th ++ wo cJ q f) (wN := wl cI cJ o h da la sa h2 da2 la2 sa2 mo lo li si sh ss q came1 u1 t1 n came2 c2 g2 lou D S shd shs th f) ⟨rfl, by decide, rfl, by decide, by decide, rfl, by decide⟩ [0] rfl rfl hl.1 rfl (Nat.le_of_ble_eq_true rfl) dL_law_764 ⟨(show cells + 0 ≤ 1052 by omega), (show slots + 0 ≤ 9420 by omega)⟩ (fun H locs hP hD hS => ?_)
  refine lv_aload_n hx hb dL_law_767 rfl (lv_at hl 2 rfl) ?_
  refine zK_vi (As := []) (rest := [.int r]) hF hM (cwV 0 hts gL_law_X2_flipped rfl rfl rfl (by decide +kernel) ⟨(Nat.le_of_ble_eq_true rfl), (Nat.le_of_ble_eq_true rfl)⟩) hK hP hD hS hA (ci := 2) (q0 := 9) rfl rfl rfl (isC := [9, 10, 11, 12, 13, 14]) (isR := [0, 1, 2, 3, 4, 5, 6, 7, 8, 15]) (perm := [0, 1, 2, 3, 4, 5, 6, 7, 8, 10, 11, 12, 13, 14, 15, 9]) (wr := wx cI o h da la sa h2 da2 la2 sa2 came1 u1 t1 ++ wo cJ q f) (wN := wl cI cJ o h da la sa h2 da2 la2 sa2 mo lo li si sh ss q came1 u1 t1 n1 came3 c3 g3 lou1 D1 S1 shd1 shs1 th1 f) ⟨rfl, by decide, rfl, by decide, by decide, rfl, by decide⟩ [0] rfl rfl hl.1 rfl (Nat.le_of_ble_eq_true rfl) dL_law_768 ⟨(show cells + 0 ≤ 1052 by omega), (show slots + 0 ≤ 9420 by omega)⟩ (fun H locs hP hD hS => ?_)
  refine lv_icmp_eq (tgt := 927) hx hb dL_law_771 (by decide) (fun hc9 => ?_) (fun hc9 => absurd rfl hc9)
  exact W.widen (k := cells + 1) (n := slots + 6) (by omega) (by omega) (kk H locs ls hP hD hS hl)
set_option maxHeartbeats 4000000 in
set_option maxRecDepth 100000 in
theorem k_comparisons (hF : CallFix p m c cL_law 7 s args wsL_law RL) (hA : ∀ q, s.heap.size ≤ q → A q) (cI cJ : ClassId) (hK : va_K G vwCl [(cI, .int), (cJ, .long)] s) (hE : zEnv A s s.heap) {b L : Nat} {xs : Nat → Int32} (hX : va_X b L xs s s.heap) (hbl : b < s.heap.size) (hbA : ¬ A b) (hL : L ≤ 2048) (o h da la sa h2 da2 la2 sa2 mo lo li si sh ss q : Nat) {came came1 : Nat} {u t u1 t1 : WH} {n came2 n1 came3 : Nat} {c2 g2 c3 g3 : Int32} {lou D S shd shs lou1 D1 S1 shd1 shs1 : Fn} {th th1 : Int32} {f f1 : Nat → Int64} (hP : va_P G vwCl (wl cI cJ o h da la sa h2 da2 la2 sa2 mo lo li si sh ss q came u t n came2 c2 g2 lou D S shd shs th f) H) (hD : va_D A (wl cI cJ o h da la sa h2 da2 la2 sa2 mo lo li si sh ss q came u t n came2 c2 g2 lou D S shd shs th f)) (hS : va_S A s.heap H locs) (hc : cells + 1 ≤ 1052) (hs : slots + 6 ≤ 9420) {ls : Array Slot} {i : Nat} (hi : i + 4 ≤ L) (hl : lv_has ls 7 [(0, .ref b), (1, .ref o), (2, .ref mo), (3, .ref q), (4, .int (nI i))]) {r : Int32} (hW : zY_i l yX1_comparisons wsX1_comparisons ({ frames := 0, cells := 0, slots := 0, locals := 0 }) G [(cI, .int)] (wx cI o h da la sa h2 da2 la2 sa2 came u t) (wx cI o h da la sa h2 da2 la2 sa2 came1 u1 t1) [.ref o] 0 0 r) (hM : zC_i l yX2_comparisons wsX2_comparisons ({ frames := 0, cells := 0, slots := 0, locals := 0 }) G [(cI, .int)] (wm cI mo lo li si sh ss n came2 c2 g2 lou D S shd shs th) (wm cI mo lo li si sh ss n1 came3 c3 g3 lou1 D1 S1 shd1 shs1 th1) [.ref mo] r) (kk : ∀ (H : Heap) (locs : List Loc) (ls : Array Slot), va_P G vwCl (wl cI cJ o h da la sa h2 da2 la2 sa2 mo lo li si sh ss q came1 u1 t1 n1 came3 c3 g3 lou1 D1 S1 shd1 shs1 th1 f) H → va_D A (wl cI cJ o h da la sa h2 da2 la2 sa2 mo lo li si sh ss q came1 u1 t1 n1 came3 c3 g3 lou1 D1 S1 shd1 shs1 th1 f) → va_S A s.heap H locs → lv_has ls 7 [(0, .ref b), (1, .ref o), (2, .ref mo), (3, .ref q), (4, .int (nI i))] → W p l e room_1 s m args below meth c H locs (cells + 1) (slots + 6) Q (F0 m 927 ls [])) : W p l e room_1 s m args below meth c H locs cells slots Q (F0 m 776 ls []) := by
  obtain ⟨hx, hb, hml, hown, hts⟩ := id hF
  refine lv_aload_n hx hb dL_law_776 rfl (lv_at hl 1 rfl) ?_
  refine zK_vy (As := []) (rest := []) hF hW (cwV 0 hts gL_law_X1_comparisons rfl rfl rfl (by decide +kernel) ⟨(Nat.le_of_ble_eq_true rfl), (Nat.le_of_ble_eq_true rfl)⟩) hK hP hD hS hA hE (ci := 1) (q0 := 0) rfl rfl rfl (isC := [0, 1, 2, 3, 4, 5, 6, 7, 8]) (isR := [9, 10, 11, 12, 13, 14, 15]) (perm := [7, 8, 9, 10, 11, 12, 13, 14, 15, 0, 1, 2, 3, 4, 5, 6]) (wr := wm cI mo lo li si sh ss n came2 c2 g2 lou D S shd shs th ++ wo cJ q f) (wN := wl cI cJ o h da la sa h2 da2 la2 sa2 mo lo li si sh ss q came1 u1 t1 n came2 c2 g2 lou D S shd shs th f) ⟨rfl, by decide, rfl, by decide, by decide, rfl, by decide⟩ [0] rfl rfl hl.1 rfl (Nat.le_of_ble_eq_true rfl) dL_law_777 ⟨(show cells + 0 ≤ 1052 by omega), (show slots + 0 ≤ 9420 by omega)⟩ (fun H locs hP hD hS => ?_)
  refine lv_aload_n hx hb dL_law_780 rfl (lv_at hl 2 rfl) ?_
  refine zK_vi (As := []) (rest := [.int r]) hF hM (cwV 0 hts gL_law_X2_comparisons rfl rfl rfl (by decide +kernel) ⟨(Nat.le_of_ble_eq_true rfl), (Nat.le_of_ble_eq_true rfl)⟩) hK hP hD hS hA (ci := 2) (q0 := 9) rfl rfl rfl (isC := [9, 10, 11, 12, 13, 14]) (isR := [0, 1, 2, 3, 4, 5, 6, 7, 8, 15]) (perm := [0, 1, 2, 3, 4, 5, 6, 7, 8, 10, 11, 12, 13, 14, 15, 9]) (wr := wx cI o h da la sa h2 da2 la2 sa2 came1 u1 t1 ++ wo cJ q f) (wN := wl cI cJ o h da la sa h2 da2 la2 sa2 mo lo li si sh ss q came1 u1 t1 n1 came3 c3 g3 lou1 D1 S1 shd1 shs1 th1 f) ⟨rfl, by decide, rfl, by decide, by decide, rfl, by decide⟩ [0] rfl rfl hl.1 rfl (Nat.le_of_ble_eq_true rfl) dL_law_781 ⟨(show cells + 0 ≤ 1052 by omega), (show slots + 0 ≤ 9420 by omega)⟩ (fun H locs hP hD hS => ?_)
  refine lv_icmp_eq (tgt := 927) hx hb dL_law_784 (by decide) (fun hc9 => ?_) (fun hc9 => absurd rfl hc9)
  exact W.widen (k := cells + 1) (n := slots + 6) (by omega) (by omega) (kk H locs ls hP hD hS hl)
set_option maxHeartbeats 4000000 in
set_option maxRecDepth 100000 in
theorem k_changes (hF : CallFix p m c cL_law 7 s args wsL_law RL) (hA : ∀ q, s.heap.size ≤ q → A q) (cI cJ : ClassId) (hK : va_K G vwCl [(cI, .int), (cJ, .long)] s) (hE : zEnv A s s.heap) {b L : Nat} {xs : Nat → Int32} (hX : va_X b L xs s s.heap) (hbl : b < s.heap.size) (hbA : ¬ A b) (hL : L ≤ 2048) (o h da la sa h2 da2 la2 sa2 mo lo li si sh ss q : Nat) {came came1 : Nat} {u t u1 t1 : WH} {n came2 n1 came3 : Nat} {c2 g2 c3 g3 : Int32} {lou D S shd shs lou1 D1 S1 shd1 shs1 : Fn} {th th1 : Int32} {f f1 : Nat → Int64} (hP : va_P G vwCl (wl cI cJ o h da la sa h2 da2 la2 sa2 mo lo li si sh ss q came u t n came2 c2 g2 lou D S shd shs th f) H) (hD : va_D A (wl cI cJ o h da la sa h2 da2 la2 sa2 mo lo li si sh ss q came u t n came2 c2 g2 lou D S shd shs th f)) (hS : va_S A s.heap H locs) (hc : cells + 1 ≤ 1052) (hs : slots + 6 ≤ 9420) {ls : Array Slot} {i : Nat} (hi : i + 4 ≤ L) (hl : lv_has ls 7 [(0, .ref b), (1, .ref o), (2, .ref mo), (3, .ref q), (4, .int (nI i))]) {r : Int32} (hW : zY_i l yX1_changes wsX1_changes ({ frames := 0, cells := 0, slots := 0, locals := 0 }) G [(cI, .int)] (wx cI o h da la sa h2 da2 la2 sa2 came u t) (wx cI o h da la sa h2 da2 la2 sa2 came1 u1 t1) [.ref o] 0 0 r) (hM : zC_i l yX2_changes wsX2_changes ({ frames := 0, cells := 0, slots := 0, locals := 0 }) G [(cI, .int)] (wm cI mo lo li si sh ss n came2 c2 g2 lou D S shd shs th) (wm cI mo lo li si sh ss n1 came3 c3 g3 lou1 D1 S1 shd1 shs1 th1) [.ref mo] r) (kk : ∀ (H : Heap) (locs : List Loc) (ls : Array Slot), va_P G vwCl (wl cI cJ o h da la sa h2 da2 la2 sa2 mo lo li si sh ss q came1 u1 t1 n1 came3 c3 g3 lou1 D1 S1 shd1 shs1 th1 f) H → va_D A (wl cI cJ o h da la sa h2 da2 la2 sa2 mo lo li si sh ss q came1 u1 t1 n1 came3 c3 g3 lou1 D1 S1 shd1 shs1 th1 f) → va_S A s.heap H locs → lv_has ls 7 [(0, .ref b), (1, .ref o), (2, .ref mo), (3, .ref q), (4, .int (nI i))] → W p l e room_1 s m args below meth c H locs (cells + 1) (slots + 6) Q (F0 m 927 ls [])) : W p l e room_1 s m args below meth c H locs cells slots Q (F0 m 789 ls []) := by
  obtain ⟨hx, hb, hml, hown, hts⟩ := id hF
  refine lv_aload_n hx hb dL_law_789 rfl (lv_at hl 1 rfl) ?_
  refine zK_vy (As := []) (rest := []) hF hW (cwV 0 hts gL_law_X1_changes rfl rfl rfl (by decide +kernel) ⟨(Nat.le_of_ble_eq_true rfl), (Nat.le_of_ble_eq_true rfl)⟩) hK hP hD hS hA hE (ci := 1) (q0 := 0) rfl rfl rfl (isC := [0, 1, 2, 3, 4, 5, 6, 7, 8]) (isR := [9, 10, 11, 12, 13, 14, 15]) (perm := [7, 8, 9, 10, 11, 12, 13, 14, 15, 0, 1, 2, 3, 4, 5, 6]) (wr := wm cI mo lo li si sh ss n came2 c2 g2 lou D S shd shs th ++ wo cJ q f) (wN := wl cI cJ o h da la sa h2 da2 la2 sa2 mo lo li si sh ss q came1 u1 t1 n came2 c2 g2 lou D S shd shs th f) ⟨rfl, by decide, rfl, by decide, by decide, rfl, by decide⟩ [0] rfl rfl hl.1 rfl (Nat.le_of_ble_eq_true rfl) dL_law_790 ⟨(show cells + 0 ≤ 1052 by omega), (show slots + 0 ≤ 9420 by omega)⟩ (fun H locs hP hD hS => ?_)
  refine lv_aload_n hx hb dL_law_793 rfl (lv_at hl 2 rfl) ?_
  refine zK_vi (As := []) (rest := [.int r]) hF hM (cwV 0 hts gL_law_X2_changes rfl rfl rfl (by decide +kernel) ⟨(Nat.le_of_ble_eq_true rfl), (Nat.le_of_ble_eq_true rfl)⟩) hK hP hD hS hA (ci := 2) (q0 := 9) rfl rfl rfl (isC := [9, 10, 11, 12, 13, 14]) (isR := [0, 1, 2, 3, 4, 5, 6, 7, 8, 15]) (perm := [0, 1, 2, 3, 4, 5, 6, 7, 8, 10, 11, 12, 13, 14, 15, 9]) (wr := wx cI o h da la sa h2 da2 la2 sa2 came1 u1 t1 ++ wo cJ q f) (wN := wl cI cJ o h da la sa h2 da2 la2 sa2 mo lo li si sh ss q came1 u1 t1 n1 came3 c3 g3 lou1 D1 S1 shd1 shs1 th1 f) ⟨rfl, by decide, rfl, by decide, by decide, rfl, by decide⟩ [0] rfl rfl hl.1 rfl (Nat.le_of_ble_eq_true rfl) dL_law_794 ⟨(show cells + 0 ≤ 1052 by omega), (show slots + 0 ≤ 9420 by omega)⟩ (fun H locs hP hD hS => ?_)
  refine lv_icmp_eq (tgt := 927) hx hb dL_law_797 (by decide) (fun hc9 => ?_) (fun hc9 => absurd rfl hc9)
  exact W.widen (k := cells + 1) (n := slots + 6) (by omega) (by omega) (kk H locs ls hP hD hS hl)
set_option maxHeartbeats 4000000 in
set_option maxRecDepth 100000 in
theorem k_comparisonsToEmpty (hF : CallFix p m c cL_law 7 s args wsL_law RL) (hA : ∀ q, s.heap.size ≤ q → A q) (cI cJ : ClassId) (hK : va_K G vwCl [(cI, .int), (cJ, .long)] s) (hE : zEnv A s s.heap) {b L : Nat} {xs : Nat → Int32} (hX : va_X b L xs s s.heap) (hbl : b < s.heap.size) (hbA : ¬ A b) (hL : L ≤ 2048) (o h da la sa h2 da2 la2 sa2 mo lo li si sh ss q : Nat) {came came1 : Nat} {u t u1 t1 : WH} {n came2 n1 came3 : Nat} {c2 g2 c3 g3 : Int32} {lou D S shd shs lou1 D1 S1 shd1 shs1 : Fn} {th th1 : Int32} {f f1 : Nat → Int64} (hP : va_P G vwCl (wl cI cJ o h da la sa h2 da2 la2 sa2 mo lo li si sh ss q came u t n came2 c2 g2 lou D S shd shs th f) H) (hD : va_D A (wl cI cJ o h da la sa h2 da2 la2 sa2 mo lo li si sh ss q came u t n came2 c2 g2 lou D S shd shs th f)) (hS : va_S A s.heap H locs) (hc : cells + 1 ≤ 1052) (hs : slots + 6 ≤ 9420) {ls : Array Slot} {i : Nat} (hi : i + 4 ≤ L) (hl : lv_has ls 7 [(0, .ref b), (1, .ref o), (2, .ref mo), (3, .ref q), (4, .int (nI i))]) {r : Int32} (hW : zY_i l yX1_comparisonsToEmpty wsX1_comparisonsToEmpty ({ frames := 6, cells := 0, slots := 0, locals := 129 }) G [(cI, .int)] (wx cI o h da la sa h2 da2 la2 sa2 came u t) (wx cI o h da la sa h2 da2 la2 sa2 came1 u1 t1) [.ref o] 0 0 r) (hM : zC_i l yX2_comparisonsToEmpty wsX2_comparisonsToEmpty ({ frames := 3, cells := 0, slots := 0, locals := 76 }) G [(cI, .int)] (wm cI mo lo li si sh ss n came2 c2 g2 lou D S shd shs th) (wm cI mo lo li si sh ss n1 came3 c3 g3 lou1 D1 S1 shd1 shs1 th1) [.ref mo] r) (kk : ∀ (H : Heap) (locs : List Loc) (ls : Array Slot), va_P G vwCl (wl cI cJ o h da la sa h2 da2 la2 sa2 mo lo li si sh ss q came1 u1 t1 n1 came3 c3 g3 lou1 D1 S1 shd1 shs1 th1 f) H → va_D A (wl cI cJ o h da la sa h2 da2 la2 sa2 mo lo li si sh ss q came1 u1 t1 n1 came3 c3 g3 lou1 D1 S1 shd1 shs1 th1 f) → va_S A s.heap H locs → lv_has ls 7 [(0, .ref b), (1, .ref o), (2, .ref mo), (3, .ref q), (4, .int (nI i))] → W p l e room_1 s m args below meth c H locs (cells + 1) (slots + 6) Q (F0 m 927 ls [])) : W p l e room_1 s m args below meth c H locs cells slots Q (F0 m 802 ls []) := by
  obtain ⟨hx, hb, hml, hown, hts⟩ := id hF
  refine lv_aload_n hx hb dL_law_802 rfl (lv_at hl 1 rfl) ?_
  refine zK_vy (As := []) (rest := []) hF hW (cwV 0 hts gL_law_X1_comparisonsToEmpty rfl rfl rfl (by decide +kernel) ⟨(Nat.le_of_ble_eq_true rfl), (Nat.le_of_ble_eq_true rfl)⟩) hK hP hD hS hA hE (ci := 1) (q0 := 0) rfl rfl rfl (isC := [0, 1, 2, 3, 4, 5, 6, 7, 8]) (isR := [9, 10, 11, 12, 13, 14, 15]) (perm := [7, 8, 9, 10, 11, 12, 13, 14, 15, 0, 1, 2, 3, 4, 5, 6]) (wr := wm cI mo lo li si sh ss n came2 c2 g2 lou D S shd shs th ++ wo cJ q f) (wN := wl cI cJ o h da la sa h2 da2 la2 sa2 mo lo li si sh ss q came1 u1 t1 n came2 c2 g2 lou D S shd shs th f) ⟨rfl, by decide, rfl, by decide, by decide, rfl, by decide⟩ [0] rfl rfl hl.1 rfl (Nat.le_of_ble_eq_true rfl) dL_law_803 ⟨(show cells + 0 ≤ 1052 by omega), (show slots + 0 ≤ 9420 by omega)⟩ (fun H locs hP hD hS => ?_)
  refine lv_aload_n hx hb dL_law_806 rfl (lv_at hl 2 rfl) ?_
  refine zK_vi (As := []) (rest := [.int r]) hF hM (cwV 0 hts gL_law_X2_comparisonsToEmpty rfl rfl rfl (by decide +kernel) ⟨(Nat.le_of_ble_eq_true rfl), (Nat.le_of_ble_eq_true rfl)⟩) hK hP hD hS hA (ci := 2) (q0 := 9) rfl rfl rfl (isC := [9, 10, 11, 12, 13, 14]) (isR := [0, 1, 2, 3, 4, 5, 6, 7, 8, 15]) (perm := [0, 1, 2, 3, 4, 5, 6, 7, 8, 10, 11, 12, 13, 14, 15, 9]) (wr := wx cI o h da la sa h2 da2 la2 sa2 came1 u1 t1 ++ wo cJ q f) (wN := wl cI cJ o h da la sa h2 da2 la2 sa2 mo lo li si sh ss q came1 u1 t1 n1 came3 c3 g3 lou1 D1 S1 shd1 shs1 th1 f) ⟨rfl, by decide, rfl, by decide, by decide, rfl, by decide⟩ [0] rfl rfl hl.1 rfl (Nat.le_of_ble_eq_true rfl) dL_law_807 ⟨(show cells + 0 ≤ 1052 by omega), (show slots + 0 ≤ 9420 by omega)⟩ (fun H locs hP hD hS => ?_)
  refine lv_icmp_eq (tgt := 927) hx hb dL_law_810 (by decide) (fun hc9 => ?_) (fun hc9 => absurd rfl hc9)
  exact W.widen (k := cells + 1) (n := slots + 6) (by omega) (by omega) (kk H locs ls hP hD hS hl)
set_option maxHeartbeats 4000000 in
set_option maxRecDepth 100000 in
theorem k_leavesAt (hF : CallFix p m c cL_law 7 s args wsL_law RL) (hA : ∀ q, s.heap.size ≤ q → A q) (cI cJ : ClassId) (hK : va_K G vwCl [(cI, .int), (cJ, .long)] s) (hE : zEnv A s s.heap) {b L : Nat} {xs : Nat → Int32} (hX : va_X b L xs s s.heap) (hbl : b < s.heap.size) (hbA : ¬ A b) (hL : L ≤ 2048) (o h da la sa h2 da2 la2 sa2 mo lo li si sh ss q : Nat) {came came1 : Nat} {u t u1 t1 : WH} {n came2 n1 came3 : Nat} {c2 g2 c3 g3 : Int32} {lou D S shd shs lou1 D1 S1 shd1 shs1 : Fn} {th th1 : Int32} {f f1 : Nat → Int64} (hP : va_P G vwCl (wl cI cJ o h da la sa h2 da2 la2 sa2 mo lo li si sh ss q came u t n came2 c2 g2 lou D S shd shs th f) H) (hD : va_D A (wl cI cJ o h da la sa h2 da2 la2 sa2 mo lo li si sh ss q came u t n came2 c2 g2 lou D S shd shs th f)) (hS : va_S A s.heap H locs) (hc : cells + 1 ≤ 1052) (hs : slots + 6 ≤ 9420) {ls : Array Slot} {i : Nat} (hi : i + 4 ≤ L) (hl : lv_has ls 7 [(0, .ref b), (1, .ref o), (2, .ref mo), (3, .ref q), (4, .int (nI i))]) {k : Nat} (hk2 : k ≤ 2) {r : Int32} (hW : zY_i l yL_leavesAt wsL_leavesAt ({ frames := 8, cells := 1, slots := 6, locals := 200 }) G [(cI, .int), (cJ, .long)] (wx cI o h da la sa h2 da2 la2 sa2 came u t ++ wo cJ q f) (wx cI o h da la sa h2 da2 la2 sa2 came1 u1 t1 ++ wo cJ q f1) [.ref o, .int (xs (i + 1)), .ref q] 1 6 (nI k)) (hM : zC_i l yX2_leavesAt wsX2_leavesAt ({ frames := 3, cells := 0, slots := 0, locals := 76 }) G [(cI, .int)] (wm cI mo lo li si sh ss n came2 c2 g2 lou D S shd shs th) (wm cI mo lo li si sh ss n1 came3 c3 g3 lou1 D1 S1 shd1 shs1 (nI k)) [.ref mo, .int (xs (i + 1))] r) (hk0 : k = 0 → f1 0 = r.toInt64) (kk : ∀ (H : Heap) (locs : List Loc) (ls : Array Slot), va_P G vwCl (wl cI cJ o h da la sa h2 da2 la2 sa2 mo lo li si sh ss q came1 u1 t1 n1 came3 c3 g3 lou1 D1 S1 shd1 shs1 (nI k) f1) H → va_D A (wl cI cJ o h da la sa h2 da2 la2 sa2 mo lo li si sh ss q came1 u1 t1 n1 came3 c3 g3 lou1 D1 S1 shd1 shs1 (nI k) f1) → va_S A s.heap H locs → lv_has ls 7 [(0, .ref b), (1, .ref o), (2, .ref mo), (3, .ref q), (4, .int (nI i))] → W p l e room_1 s m args below meth c H locs (cells + 1) (slots + 6) Q (F0 m 927 ls [])) : W p l e room_1 s m args below meth c H locs cells slots Q (F0 m 815 ls []) := by
  obtain ⟨hx, hb, hml, hown, hts⟩ := id hF
  refine lv_aload_n hx hb dL_law_815 rfl (lv_at hl 1 rfl) ?_
  refine lv_aload_n hx hb dL_law_816 rfl (lv_at hl 0 rfl) ?_
  refine lv_iload hx hb dL_law_817 (lv_at hl 4 rfl) ?_
  refine lv_iconst (v := nI 1) hx hb dL_law_819 (by decide) ?_
  refine lv_iadd hx hb dL_law_820 ?_
  refine zN (nI (i + 1)) (nI_add i 1) ?_
  refine z_sld hx hb hX hbl hbA hL hS (by omega) dL_law_821 ?_
  refine lv_aload_n hx hb dL_law_822 rfl (lv_at hl 3 rfl) ?_
  refine zK_sw (av := [.ref o, .int (xs (i + 1)), .ref q]) (rest := []) hF hW (vx_cwSW 3 hts gL_law_L_leavesAt rfl rfl rfl (by decide +kernel) ⟨(Nat.le_of_ble_eq_true rfl), (Nat.le_of_ble_eq_true rfl)⟩) hK hP hD hS hA hE (isC := [0, 1, 2, 3, 4, 5, 6, 7, 8, 15]) (isR := [9, 10, 11, 12, 13, 14]) (perm := [6, 7, 8, 9, 10, 11, 12, 13, 14, 0, 1, 2, 3, 4, 5, 15]) (wr := wm cI mo lo li si sh ss n came2 c2 g2 lou D S shd shs th) (wN := wl cI cJ o h da la sa h2 da2 la2 sa2 mo lo li si sh ss q came1 u1 t1 n came2 c2 g2 lou D S shd shs th f1) ⟨rfl, by decide, rfl, by decide, by decide, rfl, by decide⟩ [0, 1] rfl rfl hl.1 rfl (Nat.le_of_ble_eq_true rfl) dL_law_823 ⟨hc, hs⟩ (fun H locs hP hD hS => ?_)
  refine lv_istore (lv' := [(5, .int (nI k)), (0, .ref b), (1, .ref o), (2, .ref mo), (3, .ref q), (4, .int (nI i))]) hx hb dL_law_826 hl (by decide) rfl (fun ls hl => ?_)
  refine lv_aload_n hx hb dL_law_828 rfl (lv_at hl 3 rfl) ?_
  refine lv_aload_n hx hb dL_law_829 rfl (lv_at hl 1 rfl) ?_
  refine lv_iload hx hb dL_law_830 (lv_at hl 5 rfl) ?_
  refine lv_iconst (v := nI 1) hx hb dL_law_832 (by decide) ?_
  refine lv_iadd hx hb dL_law_833 ?_
  refine zN (nI (i + 1)) (nI_add i 1) ?_
  refine z_sld hx hb hX hbl hbA hL hS (by omega) dL_law_834 ?_
  refine zK_vi (As := [.int (xs (i + 1))]) (rest := []) hF hM (cwV 1 hts gL_law_X2_leavesAt rfl rfl rfl (by decide +kernel) ⟨(Nat.le_of_ble_eq_true rfl), (Nat.le_of_ble_eq_true rfl)⟩) hK hP hD hS hA (ci := 2) (q0 := 9) rfl rfl rfl (isC := [9, 10, 11, 12, 13, 14]) (isR := [0, 1, 2, 3, 4, 5, 6, 7, 8, 15]) (perm := [0, 1, 2, 3, 4, 5, 6, 7, 8, 10, 11, 12, 13, 14, 15, 9]) (wr := wx cI o h da la sa h2 da2 la2 sa2 came1 u1 t1 ++ wo cJ q f1) (wN := wl cI cJ o h da la sa h2 da2 la2 sa2 mo lo li si sh ss q came1 u1 t1 n1 came3 c3 g3 lou1 D1 S1 shd1 shs1 (nI k) f1) ⟨rfl, by decide, rfl, by decide, by decide, rfl, by decide⟩ [0] rfl rfl hl.1 rfl (Nat.le_of_ble_eq_true rfl) dL_law_835 ⟨(show cells + 1 + 0 ≤ 1052 by omega), (show slots + 6 + 0 ≤ 9420 by omega)⟩ (fun H locs hP hD hS => ?_)
  refine lv_istore (lv' := [(6, .int r), (5, .int (nI k)), (0, .ref b), (1, .ref o), (2, .ref mo), (3, .ref q), (4, .int (nI i))]) hx hb dL_law_838 hl (by decide) rfl (fun ls hl => ?_)
  refine lv_aload_n hx hb dL_law_840 rfl (lv_at hl 4 rfl) ?_
  refine zK_vi (As := []) (rest := []) hF (m_thrown l G cI mo lo li si sh ss n1 came3 c3 g3 lou1 D1 S1 shd1 shs1 (nI k)) (cwV 0 hts gL_law_X2_thrown rfl rfl rfl (by decide +kernel) ⟨(Nat.le_of_ble_eq_true rfl), (Nat.le_of_ble_eq_true rfl)⟩) hK hP hD hS hA (ci := 2) (q0 := 9) rfl rfl rfl (isC := [9, 10, 11, 12, 13, 14]) (isR := [0, 1, 2, 3, 4, 5, 6, 7, 8, 15]) (perm := [0, 1, 2, 3, 4, 5, 6, 7, 8, 10, 11, 12, 13, 14, 15, 9]) (wr := wx cI o h da la sa h2 da2 la2 sa2 came1 u1 t1 ++ wo cJ q f1) (wN := wl cI cJ o h da la sa h2 da2 la2 sa2 mo lo li si sh ss q came1 u1 t1 n1 came3 c3 g3 lou1 D1 S1 shd1 shs1 (nI k) f1) ⟨rfl, by decide, rfl, by decide, by decide, rfl, by decide⟩ [0] rfl rfl hl.1 rfl (Nat.le_of_ble_eq_true rfl) dL_law_841 ⟨(show cells + 1 + 0 ≤ 1052 by omega), (show slots + 6 + 0 ≤ 9420 by omega)⟩ (fun H locs hP hD hS => ?_)
  refine lv_iload hx hb dL_law_844 (lv_at hl 1 rfl) ?_
  refine lv_icmp_eq (tgt := 851) hx hb dL_law_846 (by decide) (fun hc9 => ?_) (fun hc9 => absurd rfl hc9)
  have hl9 := lv_sub hl [2, 3, 4, 5, 6] (l' := [(0, .ref b), (1, .ref o), (2, .ref mo), (3, .ref q), (4, .int (nI i))]) rfl
  refine lv_iload hx hb dL_law_851 (lv_at hl 1 rfl) ?_
  refine lv_if_ne (tgt := 868) hx hb dL_law_853 (by decide) (fun hc8 => ?_) (fun hc8 => ?_)
  · refine lv_goto (tgt := 927) hx hb dL_law_868 (by decide) ?_
    exact kk H locs ls hP hD hS hl9
  have hk := k0_eq (a := k) (by omega) hc8
  refine lv_aload_n hx hb dL_law_856 rfl (lv_at hl 5 rfl) ?_
  refine lv_iconst (v := 0) hx hb dL_law_857 (by decide) ?_
  refine va_lald (f := f1) (n := 1) (cA := cJ) hx hb hK hP 15 1 rfl rfl (by unfold vp_in; decide) dL_law_858 ?_
  refine lv_iload hx hb dL_law_859 (lv_at hl 0 rfl) ?_
  refine lv_i2l hx hb dL_law_861 rfl ?_
  refine W.lcmp hx hb dL_law_862 ?_
  have hq : lg_cmp (f1 (0 : Int32).toNatClampNeg) r.toInt64 = 0 := by rw [show (0 : Int32).toNatClampNeg = 0 from rfl, hk0 hk]; exact lgc_refl _
  refine lv_if_eq (tgt := 868) hx hb dL_law_863 (by decide) (fun hc9 => ?_) (fun hc9 => absurd hq hc9)
  refine lv_goto (tgt := 927) hx hb dL_law_868 (by decide) ?_
  exact kk H locs ls hP hD hS hl9
set_option maxHeartbeats 4000000 in
set_option maxRecDepth 100000 in
theorem k_quieterThan (hF : CallFix p m c cL_law 7 s args wsL_law RL) (hA : ∀ q, s.heap.size ≤ q → A q) (cI cJ : ClassId) (hK : va_K G vwCl [(cI, .int), (cJ, .long)] s) (hE : zEnv A s s.heap) {b L : Nat} {xs : Nat → Int32} (hX : va_X b L xs s s.heap) (hbl : b < s.heap.size) (hbA : ¬ A b) (hL : L ≤ 2048) (o h da la sa h2 da2 la2 sa2 mo lo li si sh ss q : Nat) {came came1 : Nat} {u t u1 t1 : WH} {n came2 n1 came3 : Nat} {c2 g2 c3 g3 : Int32} {lou D S shd shs lou1 D1 S1 shd1 shs1 : Fn} {th th1 : Int32} {f f1 : Nat → Int64} (hP : va_P G vwCl (wl cI cJ o h da la sa h2 da2 la2 sa2 mo lo li si sh ss q came u t n came2 c2 g2 lou D S shd shs th f) H) (hD : va_D A (wl cI cJ o h da la sa h2 da2 la2 sa2 mo lo li si sh ss q came u t n came2 c2 g2 lou D S shd shs th f)) (hS : va_S A s.heap H locs) (hc : cells + 1 ≤ 1052) (hs : slots + 6 ≤ 9420) {ls : Array Slot} {i : Nat} (hi : i + 4 ≤ L) (hl : lv_has ls 7 [(0, .ref b), (1, .ref o), (2, .ref mo), (3, .ref q), (4, .int (nI i))]) {k : Nat} (hk2 : k ≤ 2) {r : Int32} (hW : zY_i l yL_quieterThan wsL_quieterThan ({ frames := 8, cells := 1, slots := 6, locals := 200 }) G [(cI, .int), (cJ, .long)] (wx cI o h da la sa h2 da2 la2 sa2 came u t ++ wo cJ q f) (wx cI o h da la sa h2 da2 la2 sa2 came1 u1 t1 ++ wo cJ q f1) [.ref o, .int (xs (i + 1)), .ref q] 1 6 (nI k)) (hM : zC_i l yX2_quieterThan wsX2_quieterThan ({ frames := 1, cells := 0, slots := 0, locals := 22 }) G [(cI, .int)] (wm cI mo lo li si sh ss n came2 c2 g2 lou D S shd shs th) (wm cI mo lo li si sh ss n1 came3 c3 g3 lou1 D1 S1 shd1 shs1 (nI k)) [.ref mo, .int (xs (i + 1))] r) (hk0 : k = 0 → f1 0 = r.toInt64) (kk : ∀ (H : Heap) (locs : List Loc) (ls : Array Slot), va_P G vwCl (wl cI cJ o h da la sa h2 da2 la2 sa2 mo lo li si sh ss q came1 u1 t1 n1 came3 c3 g3 lou1 D1 S1 shd1 shs1 (nI k) f1) H → va_D A (wl cI cJ o h da la sa h2 da2 la2 sa2 mo lo li si sh ss q came1 u1 t1 n1 came3 c3 g3 lou1 D1 S1 shd1 shs1 (nI k) f1) → va_S A s.heap H locs → lv_has ls 7 [(0, .ref b), (1, .ref o), (2, .ref mo), (3, .ref q), (4, .int (nI i))] → W p l e room_1 s m args below meth c H locs (cells + 1) (slots + 6) Q (F0 m 927 ls [])) : W p l e room_1 s m args below meth c H locs cells slots Q (F0 m 871 ls []) := by
  obtain ⟨hx, hb, hml, hown, hts⟩ := id hF
  refine lv_aload_n hx hb dL_law_871 rfl (lv_at hl 1 rfl) ?_
  refine lv_aload_n hx hb dL_law_872 rfl (lv_at hl 0 rfl) ?_
  refine lv_iload hx hb dL_law_873 (lv_at hl 4 rfl) ?_
  refine lv_iconst (v := nI 1) hx hb dL_law_875 (by decide) ?_
  refine lv_iadd hx hb dL_law_876 ?_
  refine zN (nI (i + 1)) (nI_add i 1) ?_
  refine z_sld hx hb hX hbl hbA hL hS (by omega) dL_law_877 ?_
  refine lv_aload_n hx hb dL_law_878 rfl (lv_at hl 3 rfl) ?_
  refine zK_sw (av := [.ref o, .int (xs (i + 1)), .ref q]) (rest := []) hF hW (vx_cwSW 3 hts gL_law_L_quieterThan rfl rfl rfl (by decide +kernel) ⟨(Nat.le_of_ble_eq_true rfl), (Nat.le_of_ble_eq_true rfl)⟩) hK hP hD hS hA hE (isC := [0, 1, 2, 3, 4, 5, 6, 7, 8, 15]) (isR := [9, 10, 11, 12, 13, 14]) (perm := [6, 7, 8, 9, 10, 11, 12, 13, 14, 0, 1, 2, 3, 4, 5, 15]) (wr := wm cI mo lo li si sh ss n came2 c2 g2 lou D S shd shs th) (wN := wl cI cJ o h da la sa h2 da2 la2 sa2 mo lo li si sh ss q came1 u1 t1 n came2 c2 g2 lou D S shd shs th f1) ⟨rfl, by decide, rfl, by decide, by decide, rfl, by decide⟩ [0, 1] rfl rfl hl.1 rfl (Nat.le_of_ble_eq_true rfl) dL_law_879 ⟨hc, hs⟩ (fun H locs hP hD hS => ?_)
  refine lv_istore (lv' := [(5, .int (nI k)), (0, .ref b), (1, .ref o), (2, .ref mo), (3, .ref q), (4, .int (nI i))]) hx hb dL_law_882 hl (by decide) rfl (fun ls hl => ?_)
  refine lv_aload_n hx hb dL_law_884 rfl (lv_at hl 3 rfl) ?_
  refine lv_aload_n hx hb dL_law_885 rfl (lv_at hl 1 rfl) ?_
  refine lv_iload hx hb dL_law_886 (lv_at hl 5 rfl) ?_
  refine lv_iconst (v := nI 1) hx hb dL_law_888 (by decide) ?_
  refine lv_iadd hx hb dL_law_889 ?_
  refine zN (nI (i + 1)) (nI_add i 1) ?_
  refine z_sld hx hb hX hbl hbA hL hS (by omega) dL_law_890 ?_
  refine zK_vi (As := [.int (xs (i + 1))]) (rest := []) hF hM (cwV 1 hts gL_law_X2_quieterThan rfl rfl rfl (by decide +kernel) ⟨(Nat.le_of_ble_eq_true rfl), (Nat.le_of_ble_eq_true rfl)⟩) hK hP hD hS hA (ci := 2) (q0 := 9) rfl rfl rfl (isC := [9, 10, 11, 12, 13, 14]) (isR := [0, 1, 2, 3, 4, 5, 6, 7, 8, 15]) (perm := [0, 1, 2, 3, 4, 5, 6, 7, 8, 10, 11, 12, 13, 14, 15, 9]) (wr := wx cI o h da la sa h2 da2 la2 sa2 came1 u1 t1 ++ wo cJ q f1) (wN := wl cI cJ o h da la sa h2 da2 la2 sa2 mo lo li si sh ss q came1 u1 t1 n1 came3 c3 g3 lou1 D1 S1 shd1 shs1 (nI k) f1) ⟨rfl, by decide, rfl, by decide, by decide, rfl, by decide⟩ [0] rfl rfl hl.1 rfl (Nat.le_of_ble_eq_true rfl) dL_law_891 ⟨(show cells + 1 + 0 ≤ 1052 by omega), (show slots + 6 + 0 ≤ 9420 by omega)⟩ (fun H locs hP hD hS => ?_)
  refine lv_istore (lv' := [(6, .int r), (5, .int (nI k)), (0, .ref b), (1, .ref o), (2, .ref mo), (3, .ref q), (4, .int (nI i))]) hx hb dL_law_894 hl (by decide) rfl (fun ls hl => ?_)
  refine lv_aload_n hx hb dL_law_896 rfl (lv_at hl 4 rfl) ?_
  refine zK_vi (As := []) (rest := []) hF (m_thrown l G cI mo lo li si sh ss n1 came3 c3 g3 lou1 D1 S1 shd1 shs1 (nI k)) (cwV 0 hts gL_law_X2_thrown rfl rfl rfl (by decide +kernel) ⟨(Nat.le_of_ble_eq_true rfl), (Nat.le_of_ble_eq_true rfl)⟩) hK hP hD hS hA (ci := 2) (q0 := 9) rfl rfl rfl (isC := [9, 10, 11, 12, 13, 14]) (isR := [0, 1, 2, 3, 4, 5, 6, 7, 8, 15]) (perm := [0, 1, 2, 3, 4, 5, 6, 7, 8, 10, 11, 12, 13, 14, 15, 9]) (wr := wx cI o h da la sa h2 da2 la2 sa2 came1 u1 t1 ++ wo cJ q f1) (wN := wl cI cJ o h da la sa h2 da2 la2 sa2 mo lo li si sh ss q came1 u1 t1 n1 came3 c3 g3 lou1 D1 S1 shd1 shs1 (nI k) f1) ⟨rfl, by decide, rfl, by decide, by decide, rfl, by decide⟩ [0] rfl rfl hl.1 rfl (Nat.le_of_ble_eq_true rfl) dL_law_897 ⟨(show cells + 1 + 0 ≤ 1052 by omega), (show slots + 6 + 0 ≤ 9420 by omega)⟩ (fun H locs hP hD hS => ?_)
  refine lv_iload hx hb dL_law_900 (lv_at hl 1 rfl) ?_
  refine lv_icmp_eq (tgt := 907) hx hb dL_law_902 (by decide) (fun hc9 => ?_) (fun hc9 => absurd rfl hc9)
  have hl9 := lv_sub hl [2, 3, 4, 5, 6] (l' := [(0, .ref b), (1, .ref o), (2, .ref mo), (3, .ref q), (4, .int (nI i))]) rfl
  refine lv_iload hx hb dL_law_907 (lv_at hl 1 rfl) ?_
  refine lv_if_ne (tgt := 924) hx hb dL_law_909 (by decide) (fun hc8 => ?_) (fun hc8 => ?_)
  · refine lv_goto (tgt := 927) hx hb dL_law_924 (by decide) ?_
    exact kk H locs ls hP hD hS hl9
  have hk := k0_eq (a := k) (by omega) hc8
  refine lv_aload_n hx hb dL_law_912 rfl (lv_at hl 5 rfl) ?_
  refine lv_iconst (v := 0) hx hb dL_law_913 (by decide) ?_
  refine va_lald (f := f1) (n := 1) (cA := cJ) hx hb hK hP 15 1 rfl rfl (by unfold vp_in; decide) dL_law_914 ?_
  refine lv_iload hx hb dL_law_915 (lv_at hl 0 rfl) ?_
  refine lv_i2l hx hb dL_law_917 rfl ?_
  refine W.lcmp hx hb dL_law_918 ?_
  have hq : lg_cmp (f1 (0 : Int32).toNatClampNeg) r.toInt64 = 0 := by rw [show (0 : Int32).toNatClampNeg = 0 from rfl, hk0 hk]; exact lgc_refl _
  refine lv_if_eq (tgt := 924) hx hb dL_law_919 (by decide) (fun hc9 => ?_) (fun hc9 => absurd hq hc9)
  refine lv_goto (tgt := 927) hx hb dL_law_924 (by decide) ?_
  exact kk H locs ls hP hD hS hl9
end LAW
