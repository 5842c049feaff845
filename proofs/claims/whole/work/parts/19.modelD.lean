/-! the reference: what is done in thought, and who is quieter -/
set_option maxHeartbeats 4000000 in
set_option maxRecDepth 100000 in
theorem m_thought (l : Launch) (G : va_G) (cI : ClassId) (oz loz liz siz shz saz : Nat) (nz camez : Nat) (cz gz : Int32) (louz Dz Sz shdz shsz : Fn) (thz : Int32) (hn : nz ≤ 63) (hc9 : camez ≤ 500) (hS1 : okS Sz) (hD1 : okD nz Dz) (pl : Int32) (mm : Nat) (hm : mm ≤ nz) (hpl : pl.toInt = (mm : Int) - 1) (dq : Bool) : zC_i l yX2_thought wsX2_thought ({ frames := 2, cells := 0, slots := 0, locals := 48 }) G [(cI, .int)] (wm cI oz loz liz siz shz saz nz camez cz gz louz Dz Sz shdz shsz thz) (wm cI oz loz liz siz shz saz nz camez cz gz louz (flF nz (flF nz Dz shdz) (wD (rmsF mm (vM louz Dz Sz nz cz gz)))) (flF nz (flF nz Sz shsz) (wS (rmsF mm (vM louz Dz Sz nz cz gz)))) (flF nz Dz shdz) (flF nz Sz shsz) thz) [.ref oz, .int pl, .int (bI dq)] (if dq = true then tdF (vM louz Dz Sz nz cz gz) mm else wc (rmsF mm (vM louz Dz Sz nz cz gz)) - cz) := by
  refine zB_i (cc := cX2_thought) (maxL := 9) (ret := (some .int)) (by decide) rfl (Nat.le_of_ble_eq_true rfl) ?_
  intro p e s m args below meth c0 A hF hr hlk hK hA hP hD hS ls hl
  have hx := hF.1
  have hb := hF.2.1
  have hown := hF.2.2.2.1
  have hts := hF.2.2.2.2
  have hf29 := hts (.fieldLink RX2 29 "SnoringDukesModel" "many" "I") (by decide +kernel)
  have hf36 := hts (.fieldLink RX2 36 "SnoringDukesModel" "compared" "I") (by decide +kernel)
  have hf39 := hts (.fieldLink RX2 39 "SnoringDukesModel" "changed" "I") (by decide +kernel)
  have hf19 := hts (.fieldLink RX2 19 "SnoringDukesModel" "shadow" "[I") (by decide +kernel)
  have hf13 := hts (.fieldLink RX2 13 "SnoringDukesModel" "lies" "[I") (by decide +kernel)
  have hf22 := hts (.fieldLink RX2 22 "SnoringDukesModel" "shade" "[I") (by decide +kernel)
  have hf16 := hts (.fieldLink RX2 16 "SnoringDukesModel" "side" "[I") (by decide +kernel)
  have hinX2 : ∀ wz ∈ wsX20, wz ∈ wsX2_thought := by decide +kernel
  have hl : lv_has ls 9 [(0, .ref oz), (1, .int pl), (2, .int (bI dq))] := hl
  refine lv_aload_n hx hb dX2_thought_0 rfl (lv_at hl 0 rfl) ?_
  refine va_get (D := G) (ci := 2) (v := .int (nI nz)) (C := RX2) (T := TX2) (N := 10) hx hb hts hinX2 hown hK hP 0 rfl rfl 0 (by decide) hf29 (fun _ h9 => h9) rfl dX2_thought_1 ?_
  refine lv_istore_n (lv' := [(3, .int (nI nz)), (0, .ref oz), (1, .int pl), (2, .int (bI dq))]) hx hb dX2_thought_4 rfl hl (by decide) rfl (fun ls hl => ?_)
  refine lv_aload_n hx hb dX2_thought_5 rfl (lv_at hl 1 rfl) ?_
  refine va_get (D := G) (ci := 2) (v := .int cz) (C := RX2) (T := TX2) (N := 10) hx hb hts hinX2 hown hK hP 0 rfl rfl 2 (by decide) hf36 (fun _ h9 => h9) rfl dX2_thought_6 ?_
  refine lv_istore (lv' := [(4, .int cz), (3, .int (nI nz)), (0, .ref oz), (1, .int pl), (2, .int (bI dq))]) hx hb dX2_thought_9 hl (by decide) rfl (fun ls hl => ?_)
  refine lv_aload_n hx hb dX2_thought_11 rfl (lv_at hl 2 rfl) ?_
  refine va_get (D := G) (ci := 2) (v := .int gz) (C := RX2) (T := TX2) (N := 10) hx hb hts hinX2 hown hK hP 0 rfl rfl 3 (by decide) hf39 (fun _ h9 => h9) rfl dX2_thought_12 ?_
  refine lv_istore (lv' := [(5, .int gz), (4, .int cz), (3, .int (nI nz)), (0, .ref oz), (1, .int pl), (2, .int (bI dq))]) hx hb dX2_thought_15 hl (by decide) rfl (fun ls hl => ?_)
  refine lv_iconst (v := (-1)) hx hb dX2_thought_17 (by decide) ?_
  refine lv_istore (lv' := [(6, .int (-1)), (5, .int gz), (4, .int cz), (3, .int (nI nz)), (0, .ref oz), (1, .int pl), (2, .int (bI dq))]) hx hb dX2_thought_18 hl (by decide) rfl (fun ls hl => ?_)
  refine lv_iconst (v := nI 0) hx hb dX2_thought_20 (by decide) ?_
  refine lv_istore (lv' := [(7, .int (nI 0)), (6, .int (-1)), (5, .int gz), (4, .int cz), (3, .int (nI nz)), (0, .ref oz), (1, .int pl), (2, .int (bI dq))]) hx hb dX2_thought_21 hl (by decide) rfl (fun ls hl => ?_)
  have hP : va_P G vwCl (wm cI oz loz liz siz shz saz nz camez cz gz louz Dz Sz (flF 0 Dz shdz) (flF 0 Sz shsz) thz) s.heap := by rw [flF_0, flF_0]; exact hP
  have hD : va_D A (wm cI oz loz liz siz shz saz nz camez cz gz louz Dz Sz (flF 0 Dz shdz) (flF 0 Sz shsz) thz) := by rw [flF_0, flF_0]; exact hD
  have loop : ∀ (f9 : Nat) (iz : Nat), (iz ≤ nz) → nz - iz < f9 → ∀ (H : Heap) (locs : List Loc) (ls : Array Slot), va_P G vwCl (wm cI oz loz liz siz shz saz nz camez cz gz louz Dz Sz (flF iz Dz shdz) (flF iz Sz shsz) thz) H → va_D A (wm cI oz loz liz siz shz saz nz camez cz gz louz Dz Sz (flF iz Dz shdz) (flF iz Sz shsz) thz) → va_S A s.heap H locs → lv_has ls 9 [(0, .ref oz), (1, .int pl), (2, .int (bI dq)), (3, .int (nI nz)), (4, .int cz), (5, .int gz), (6, .int (-1)), (7, .int (nI iz))] → W p l e ({ frames := 2, cells := 0, slots := 0, locals := 48 }) s m args below meth c0 H locs 0 0 (zQ_i below G [(cI, .int)] (wm cI oz loz liz siz shz saz nz camez cz gz louz (flF nz (flF nz Dz shdz) (wD (rmsF mm (vM louz Dz Sz nz cz gz)))) (flF nz (flF nz Sz shsz) (wS (rmsF mm (vM louz Dz Sz nz cz gz)))) (flF nz Dz shdz) (flF nz Sz shsz) thz) (if dq = true then tdF (vM louz Dz Sz nz cz gz) mm else wc (rmsF mm (vM louz Dz Sz nz cz gz)) - cz) A args s) (F0 m 23 ls []) := by
    intro f9
    induction f9 with
    | zero => intro iz hi hf; exact absurd hf (Nat.not_lt_zero _)
    | succ f9 ih =>
      intro iz hi hf H locs ls hP hD hS hl
      refine lv_iload hx hb dX2_thought_23 (lv_at hl 7 rfl) ?_
      refine lv_iload_n hx hb dX2_thought_25 rfl (lv_at hl 3 rfl) ?_
      refine lv_icmp_ge (tgt := 63) hx hb dX2_thought_26 (by decide) (fun hc26 => ?_) (fun hc26 => ?_)
      · skip
        have k26 : nz ≤ iz := k_le (by omega) (by omega) hc26
        obtain rfl : nz = iz := by omega
        refine lv_iconst (v := nI 0) hx hb dX2_thought_63 (by decide) ?_
        refine lv_istore (lv' := [(7, .int (nI 0)), (0, .ref oz), (1, .int pl), (2, .int (bI dq)), (3, .int (nI nz)), (4, .int cz), (5, .int gz), (6, .int (-1))]) hx hb dX2_thought_64 hl (by decide) rfl (fun ls hl => ?_)
        have hl : lv_has ls 9 [(7, .int (nI 0)), (0, .ref oz), (1, .int pl), (2, .int (bI dq)), (3, .int (nI nz)), (4, .int cz), (5, .int gz), (6, .int (tdF (vM louz Dz Sz nz cz gz) 0))] := hl
        have loop2 : ∀ (f9 : Nat) (D1 : Fn) (S1 : Fn) (x1 : Int32) (y1 : Int32) (i2 : Nat), (okS S1) → (okD (nz - i2) D1) → (rmsF i2 (vM louz Dz Sz nz cz gz) = vM louz D1 S1 (nz - i2) x1 y1) → (i2 ≤ mm) → mm - i2 < f9 → ∀ (H : Heap) (locs : List Loc) (ls : Array Slot), va_P G vwCl (wm cI oz loz liz siz shz saz (nz - i2) camez x1 y1 louz D1 S1 (flF nz Dz shdz) (flF nz Sz shsz) thz) H → va_D A (wm cI oz loz liz siz shz saz (nz - i2) camez x1 y1 louz D1 S1 (flF nz Dz shdz) (flF nz Sz shsz) thz) → va_S A s.heap H locs → lv_has ls 9 [(0, .ref oz), (1, .int pl), (2, .int (bI dq)), (3, .int (nI nz)), (4, .int cz), (5, .int gz), (6, .int (tdF (vM louz Dz Sz nz cz gz) i2)), (7, .int (nI i2))] → W p l e ({ frames := 2, cells := 0, slots := 0, locals := 48 }) s m args below meth c0 H locs 0 0 (zQ_i below G [(cI, .int)] (wm cI oz loz liz siz shz saz nz camez cz gz louz (flF nz (flF nz Dz shdz) (wD (rmsF mm (vM louz Dz Sz nz cz gz)))) (flF nz (flF nz Sz shsz) (wS (rmsF mm (vM louz Dz Sz nz cz gz)))) (flF nz Dz shdz) (flF nz Sz shsz) thz) (if dq = true then tdF (vM louz Dz Sz nz cz gz) mm else wc (rmsF mm (vM louz Dz Sz nz cz gz)) - cz) A args s) (F0 m 66 ls []) := by
          intro f9
          induction f9 with
          | zero => intro D1 S1 x1 y1 i2 hS4 hD4 hr9 hi2 hf; exact absurd hf (Nat.not_lt_zero _)
          | succ f9 ih =>
            intro D1 S1 x1 y1 i2 hS4 hD4 hr9 hi2 hf H locs ls hP hD hS hl
            have hp9 := z_pl (i := i2) hpl (by omega)
            refine lv_iload hx hb dX2_thought_66 (lv_at hl 7 rfl) ?_
            refine lv_iload_n hx hb dX2_thought_68 rfl (lv_at hl 1 rfl) ?_
            refine lv_icmp_gt (tgt := 84) hx hb dX2_thought_69 (by decide) (fun hc69 => ?_) (fun hc69 => ?_)
            · skip
              have k69 := hp9.mp hc69
              obtain rfl : mm = i2 := by omega
              refine lv_aload_n hx hb dX2_thought_84 rfl (lv_at hl 0 rfl) ?_
              refine va_get (D := G) (ci := 2) (v := .int x1) (C := RX2) (T := TX2) (N := 10) hx hb hts hinX2 hown hK hP 0 rfl rfl 2 (by decide) hf36 (fun _ h9 => h9) rfl dX2_thought_85 ?_
              refine lv_iload hx hb dX2_thought_88 (lv_at hl 4 rfl) ?_
              refine lv_isub hx hb dX2_thought_90 ?_
              refine lv_istore (lv' := [(7, .int (x1 - cz)), (0, .ref oz), (1, .int pl), (2, .int (bI dq)), (3, .int (nI nz)), (4, .int cz), (5, .int gz), (6, .int (tdF (vM louz Dz Sz nz cz gz) mm))]) hx hb dX2_thought_91 hl (by decide) rfl (fun ls hl => ?_)
              refine lv_iconst (v := nI 0) hx hb dX2_thought_93 (by decide) ?_
              refine lv_istore (lv' := [(8, .int (nI 0)), (7, .int (x1 - cz)), (0, .ref oz), (1, .int pl), (2, .int (bI dq)), (3, .int (nI nz)), (4, .int cz), (5, .int gz), (6, .int (tdF (vM louz Dz Sz nz cz gz) mm))]) hx hb dX2_thought_94 hl (by decide) rfl (fun ls hl => ?_)
              have hP : va_P G vwCl (wm cI oz loz liz siz shz saz (nz - mm) camez x1 y1 louz (flF 0 (flF nz Dz shdz) D1) (flF 0 (flF nz Sz shsz) S1) (flF nz Dz shdz) (flF nz Sz shsz) thz) H := by rw [flF_0 (flF nz Dz shdz), flF_0 (flF nz Sz shsz)]; exact hP
              have hD : va_D A (wm cI oz loz liz siz shz saz (nz - mm) camez x1 y1 louz (flF 0 (flF nz Dz shdz) D1) (flF 0 (flF nz Sz shsz) S1) (flF nz Dz shdz) (flF nz Sz shsz) thz) := by rw [flF_0 (flF nz Dz shdz), flF_0 (flF nz Sz shsz)]; exact hD
              have loop3 : ∀ (f9 : Nat) (i3 : Nat), (i3 ≤ nz) → nz - i3 < f9 → ∀ (H : Heap) (locs : List Loc) (ls : Array Slot), va_P G vwCl (wm cI oz loz liz siz shz saz (nz - mm) camez x1 y1 louz (flF i3 (flF nz Dz shdz) D1) (flF i3 (flF nz Sz shsz) S1) (flF nz Dz shdz) (flF nz Sz shsz) thz) H → va_D A (wm cI oz loz liz siz shz saz (nz - mm) camez x1 y1 louz (flF i3 (flF nz Dz shdz) D1) (flF i3 (flF nz Sz shsz) S1) (flF nz Dz shdz) (flF nz Sz shsz) thz) → va_S A s.heap H locs → lv_has ls 9 [(0, .ref oz), (1, .int pl), (2, .int (bI dq)), (3, .int (nI nz)), (4, .int cz), (5, .int gz), (6, .int (tdF (vM louz Dz Sz nz cz gz) mm)), (7, .int (x1 - cz)), (8, .int (nI i3))] → W p l e ({ frames := 2, cells := 0, slots := 0, locals := 48 }) s m args below meth c0 H locs 0 0 (zQ_i below G [(cI, .int)] (wm cI oz loz liz siz shz saz nz camez cz gz louz (flF nz (flF nz Dz shdz) (wD (rmsF mm (vM louz Dz Sz nz cz gz)))) (flF nz (flF nz Sz shsz) (wS (rmsF mm (vM louz Dz Sz nz cz gz)))) (flF nz Dz shdz) (flF nz Sz shsz) thz) (if dq = true then tdF (vM louz Dz Sz nz cz gz) mm else wc (rmsF mm (vM louz Dz Sz nz cz gz)) - cz) A args s) (F0 m 96 ls []) := by
                intro f9
                induction f9 with
                | zero => intro i3 hi3 hf; exact absurd hf (Nat.not_lt_zero _)
                | succ f9 ih =>
                  intro i3 hi3 hf H locs ls hP hD hS hl
                  refine lv_iload hx hb dX2_thought_96 (lv_at hl 8 rfl) ?_
                  refine lv_iload_n hx hb dX2_thought_98 rfl (lv_at hl 3 rfl) ?_
                  refine lv_icmp_ge (tgt := 136) hx hb dX2_thought_99 (by decide) (fun hc99 => ?_) (fun hc99 => ?_)
                  · skip
                    have k99 : nz ≤ i3 := k_le (by omega) (by omega) hc99
                    obtain rfl : nz = i3 := by omega
                    have e5 : rmsF mm (vM louz Dz Sz nz cz gz) = vM louz D1 S1 (nz - mm) x1 y1 := hr9
                    refine lv_aload_n hx hb dX2_thought_136 rfl (lv_at hl 0 rfl) ?_
                    refine lv_iload_n hx hb dX2_thought_137 rfl (lv_at hl 3 rfl) ?_
                    refine va_put (D := G) (ci := 2) (v := .int (nI nz)) (ty := .int) (C := RX2) (T := TX2) (N := 10) hx hb hts hinX2 tyX2 tyX2_ok nmX2 hown hK hP hD hS 0 rfl rfl 0 (by decide) hf29 (fun _ h9 => h9) rfl (by decide +kernel) rfl rfl (Nat.le_of_ble_eq_true rfl) dX2_thought_138 (fun H locs hP hD hS => ?_)
                    have hP : va_P G vwCl (wm cI oz loz liz siz shz saz nz camez x1 y1 louz (flF nz (flF nz Dz shdz) D1) (flF nz (flF nz Sz shsz) S1) (flF nz Dz shdz) (flF nz Sz shsz) thz) H := hP
                    have hD : va_D A (wm cI oz loz liz siz shz saz nz camez x1 y1 louz (flF nz (flF nz Dz shdz) D1) (flF nz (flF nz Sz shsz) S1) (flF nz Dz shdz) (flF nz Sz shsz) thz) := hD
                    refine lv_aload_n hx hb dX2_thought_141 rfl (lv_at hl 0 rfl) ?_
                    refine lv_iload hx hb dX2_thought_142 (lv_at hl 4 rfl) ?_
                    refine va_put (D := G) (ci := 2) (v := .int cz) (ty := .int) (C := RX2) (T := TX2) (N := 10) hx hb hts hinX2 tyX2 tyX2_ok nmX2 hown hK hP hD hS 0 rfl rfl 2 (by decide) hf36 (fun _ h9 => h9) rfl (by decide +kernel) rfl rfl (Nat.le_of_ble_eq_true rfl) dX2_thought_144 (fun H locs hP hD hS => ?_)
                    have hP : va_P G vwCl (wm cI oz loz liz siz shz saz nz camez cz y1 louz (flF nz (flF nz Dz shdz) D1) (flF nz (flF nz Sz shsz) S1) (flF nz Dz shdz) (flF nz Sz shsz) thz) H := hP
                    have hD : va_D A (wm cI oz loz liz siz shz saz nz camez cz y1 louz (flF nz (flF nz Dz shdz) D1) (flF nz (flF nz Sz shsz) S1) (flF nz Dz shdz) (flF nz Sz shsz) thz) := hD
                    refine lv_aload_n hx hb dX2_thought_147 rfl (lv_at hl 0 rfl) ?_
                    refine lv_iload hx hb dX2_thought_148 (lv_at hl 5 rfl) ?_
                    refine va_put (D := G) (ci := 2) (v := .int gz) (ty := .int) (C := RX2) (T := TX2) (N := 10) hx hb hts hinX2 tyX2 tyX2_ok nmX2 hown hK hP hD hS 0 rfl rfl 3 (by decide) hf39 (fun _ h9 => h9) rfl (by decide +kernel) rfl rfl (Nat.le_of_ble_eq_true rfl) dX2_thought_150 (fun H locs hP hD hS => ?_)
                    have hP : va_P G vwCl (wm cI oz loz liz siz shz saz nz camez cz gz louz (flF nz (flF nz Dz shdz) D1) (flF nz (flF nz Sz shsz) S1) (flF nz Dz shdz) (flF nz Sz shsz) thz) H := hP
                    have hD : va_D A (wm cI oz loz liz siz shz saz nz camez cz gz louz (flF nz (flF nz Dz shdz) D1) (flF nz (flF nz Sz shsz) S1) (flF nz Dz shdz) (flF nz Sz shsz) thz) := hD
                    refine lv_iload_n hx hb dX2_thought_153 rfl (lv_at hl 2 rfl) ?_
                    refine lv_if_eq (tgt := 162) hx hb dX2_thought_154 (by decide) (fun hc154 => ?_) (fun hc154 => ?_)
                    · skip
                      have k154 : dq = false := bI_e0.mp hc154
                      refine lv_iload hx hb dX2_thought_162 (lv_at hl 7 rfl) ?_
                      rw [if_neg (by rw [k154]; decide), e5]
                      exact zE_i hF hr hlk hK hP hD hS dX2_thought_164
                    · skip
                      have k154 : dq = true := bI_ne.mp hc154
                      refine lv_iload hx hb dX2_thought_157 (lv_at hl 6 rfl) ?_
                      refine lv_goto (tgt := 164) hx hb dX2_thought_159 (by decide) ?_
                      rw [if_pos k154, e5]
                      exact zE_i hF hr hlk hK hP hD hS dX2_thought_164
                  · skip
                    have k99 : i3 < nz := k_nle (by omega) (by omega) hc99
                    refine lv_aload_n hx hb dX2_thought_102 rfl (lv_at hl 0 rfl) ?_
                    refine va_get (D := G) (ci := 2) (v := .ref liz) (C := RX2) (T := TX2) (N := 10) hx hb hts hinX2 hown hK hP 0 rfl rfl 5 (by decide) hf13 (fun _ h9 => h9) rfl dX2_thought_103 ?_
                    refine lv_iload hx hb dX2_thought_106 (lv_at hl 8 rfl) ?_
                    refine lv_aload_n hx hb dX2_thought_108 rfl (lv_at hl 0 rfl) ?_
                    refine va_get (D := G) (ci := 2) (v := .ref shz) (C := RX2) (T := TX2) (N := 10) hx hb hts hinX2 hown hK hP 0 rfl rfl 7 (by decide) hf19 (fun _ h9 => h9) rfl dX2_thought_109 ?_
                    refine lv_iload hx hb dX2_thought_112 (lv_at hl 8 rfl) ?_
                    refine zA_ld hx hb hK hP 4 0 rfl rfl (by omega) (by decide) dX2_thought_114 ?_
                    refine zA_st (x := (flF nz Dz shdz) i3) hx hb hK hP hD hS 2 0 rfl rfl (by omega) (by decide) dX2_thought_115 (fun H locs hP hD hS => ?_)
                    have hP : va_P G vwCl (wm cI oz loz liz siz shz saz (nz - mm) camez x1 y1 louz (upd (flF i3 (flF nz Dz shdz) D1) i3 ((flF nz Dz shdz) i3)) (flF i3 (flF nz Sz shsz) S1) (flF nz Dz shdz) (flF nz Sz shsz) thz) H := hP
                    have hD : va_D A (wm cI oz loz liz siz shz saz (nz - mm) camez x1 y1 louz (upd (flF i3 (flF nz Dz shdz) D1) i3 ((flF nz Dz shdz) i3)) (flF i3 (flF nz Sz shsz) S1) (flF nz Dz shdz) (flF nz Sz shsz) thz) := hD
                    refine lv_aload_n hx hb dX2_thought_116 rfl (lv_at hl 0 rfl) ?_
                    refine va_get (D := G) (ci := 2) (v := .ref siz) (C := RX2) (T := TX2) (N := 10) hx hb hts hinX2 hown hK hP 0 rfl rfl 6 (by decide) hf16 (fun _ h9 => h9) rfl dX2_thought_117 ?_
                    refine lv_iload hx hb dX2_thought_120 (lv_at hl 8 rfl) ?_
                    refine lv_aload_n hx hb dX2_thought_122 rfl (lv_at hl 0 rfl) ?_
                    refine va_get (D := G) (ci := 2) (v := .ref saz) (C := RX2) (T := TX2) (N := 10) hx hb hts hinX2 hown hK hP 0 rfl rfl 8 (by decide) hf22 (fun _ h9 => h9) rfl dX2_thought_123 ?_
                    refine lv_iload hx hb dX2_thought_126 (lv_at hl 8 rfl) ?_
                    refine zA_ld hx hb hK hP 5 0 rfl rfl (by omega) (by decide) dX2_thought_128 ?_
                    refine zA_st (x := (flF nz Sz shsz) i3) hx hb hK hP hD hS 3 0 rfl rfl (by omega) (by decide) dX2_thought_129 (fun H locs hP hD hS => ?_)
                    have hP : va_P G vwCl (wm cI oz loz liz siz shz saz (nz - mm) camez x1 y1 louz (upd (flF i3 (flF nz Dz shdz) D1) i3 ((flF nz Dz shdz) i3)) (upd (flF i3 (flF nz Sz shsz) S1) i3 ((flF nz Sz shsz) i3)) (flF nz Dz shdz) (flF nz Sz shsz) thz) H := hP
                    have hD : va_D A (wm cI oz loz liz siz shz saz (nz - mm) camez x1 y1 louz (upd (flF i3 (flF nz Dz shdz) D1) i3 ((flF nz Dz shdz) i3)) (upd (flF i3 (flF nz Sz shsz) S1) i3 ((flF nz Sz shsz) i3)) (flF nz Dz shdz) (flF nz Sz shsz) thz) := hD
                    have hP : va_P G vwCl (wm cI oz loz liz siz shz saz (nz - mm) camez x1 y1 louz (flF (i3 + 1) (flF nz Dz shdz) D1) (flF (i3 + 1) (flF nz Sz shsz) S1) (flF nz Dz shdz) (flF nz Sz shsz) thz) H := by rw [← flF_succ (flF nz Dz shdz), ← flF_succ (flF nz Sz shsz)]; exact hP
                    have hD : va_D A (wm cI oz loz liz siz shz saz (nz - mm) camez x1 y1 louz (flF (i3 + 1) (flF nz Dz shdz) D1) (flF (i3 + 1) (flF nz Sz shsz) S1) (flF nz Dz shdz) (flF nz Sz shsz) thz) := by rw [← flF_succ (flF nz Dz shdz), ← flF_succ (flF nz Sz shsz)]; exact hD
                    refine lv_iinc (v := nI (i3 + 1)) (lv' := [(8, .int (nI (i3 + 1))), (0, .ref oz), (1, .int pl), (2, .int (bI dq)), (3, .int (nI nz)), (4, .int cz), (5, .int gz), (6, .int (tdF (vM louz Dz Sz nz cz gz) mm)), (7, .int (x1 - cz))]) hx hb dX2_thought_130 hl (k := 8) rfl (nI_1 _) (by decide) rfl (fun ls hl => ?_)
                    refine lv_goto (tgt := 96) hx hb dX2_thought_133 (by decide) ?_
                    exact ih (i3 + 1) (by omega) (by omega) _ _ _ hP hD hS (lv_sub hl [1, 2, 3, 4, 5, 6, 7, 8, 0] rfl)
              exact loop3 (nz + 1) 0 (by omega) (by omega) _ _ _ hP hD hS (lv_sub hl [2, 3, 4, 5, 6, 7, 8, 1, 0] rfl)
            · skip
              have k69 : i2 < mm := Nat.lt_of_not_le fun zz => hc69 (hp9.mpr zz)
              refine lv_aload_n hx hb dX2_thought_72 rfl (lv_at hl 0 rfl) ?_
              refine zK_vi (As := []) (rest := []) hF (m_leaves l G cI oz loz liz siz shz saz (nz - i2) camez x1 y1 louz D1 S1 (flF nz Dz shdz) (flF nz Sz shsz) thz (by omega) (by omega) hS4 hD4 (by omega)) (cwV 0 hts gX2_thought_X2_leaves rfl rfl rfl (by decide +kernel) ⟨Nat.le_of_ble_eq_true rfl, Nat.le_of_ble_eq_true rfl⟩) hK hP hD hS hA (ci := 2) (q0 := 0) rfl rfl rfl (isC := [0, 1, 2, 3, 4, 5]) (isR := []) (perm := [0, 1, 2, 3, 4, 5]) (wr := []) (wN := wm cI oz loz liz siz shz saz (nz - i2 - 1) camez (wc (rmF (vM louz D1 S1 (nz - i2) x1 y1))) (wg (rmF (vM louz D1 S1 (nz - i2) x1 y1))) louz (wD (rmF (vM louz D1 S1 (nz - i2) x1 y1))) (wS (rmF (vM louz D1 S1 (nz - i2) x1 y1))) (flF nz Dz shdz) (flF nz Sz shsz) thz) ⟨rfl, by decide, rfl, rfl, (fun _ hz => by cases hz), rfl, by decide⟩ [0] rfl rfl hl.1 rfl (Nat.le_of_ble_eq_true rfl) dX2_thought_73 ⟨Nat.le_refl _, Nat.le_refl _⟩ (fun H locs hP hD hS => ?_)
              obtain ⟨D11, S11, c11, g11, hu11, hz11, hy11⟩ := rmM_ex (lou := louz) (c := x1) (g := y1) hS4 hD4 (by omega) (by omega) (m := nz - (i2 + 1)) (by omega)
              have e5 : nz - i2 - 1 = nz - (i2 + 1) := by omega
              rw [e5] at hP hD
              have hP : va_P G vwCl (wm cI oz loz liz siz shz saz (nz - (i2 + 1)) camez c11 g11 louz D11 S11 (flF nz Dz shdz) (flF nz Sz shsz) thz) H := by have qz := hP; rw [hu11] at qz; exact qz
              have hD : va_D A (wm cI oz loz liz siz shz saz (nz - (i2 + 1)) camez c11 g11 louz D11 S11 (flF nz Dz shdz) (flF nz Sz shsz) thz) := by have qz := hD; rw [hu11] at qz; exact qz
              refine lv_istore (lv' := [(6, .int (D1 0)), (0, .ref oz), (1, .int pl), (2, .int (bI dq)), (3, .int (nI nz)), (4, .int cz), (5, .int gz), (7, .int (nI i2))]) hx hb dX2_thought_76 hl (by decide) rfl (fun ls hl => ?_)
              have e9 : tdF (vM louz Dz Sz nz cz gz) (i2 + 1) = D1 0 := by show wD (rmsF i2 (vM louz Dz Sz nz cz gz)) 0 = D1 0; rw [hr9]; rfl
              have hl : lv_has ls 9 [(6, .int (tdF (vM louz Dz Sz nz cz gz) (i2 + 1))), (0, .ref oz), (1, .int pl), (2, .int (bI dq)), (3, .int (nI nz)), (4, .int cz), (5, .int gz), (7, .int (nI i2))] := by rw [e9]; exact hl
              refine lv_iinc (v := nI (i2 + 1)) (lv' := [(7, .int (nI (i2 + 1))), (6, .int (tdF (vM louz Dz Sz nz cz gz) (i2 + 1))), (0, .ref oz), (1, .int pl), (2, .int (bI dq)), (3, .int (nI nz)), (4, .int cz), (5, .int gz)]) hx hb dX2_thought_78 hl (k := 7) rfl (nI_1 _) (by decide) rfl (fun ls hl => ?_)
              refine lv_goto (tgt := 66) hx hb dX2_thought_81 (by decide) ?_
              exact ih D11 S11 c11 g11 (i2 + 1) hz11 hy11 (by rw [rmsF, hr9]; exact hu11) (by omega) (by omega) _ _ _ hP hD hS (lv_sub hl [2, 3, 4, 5, 6, 7, 1, 0] rfl)
        exact loop2 (mm + 1) Dz Sz cz gz 0 hS1 hD1 rfl (by omega) (by omega) _ _ _ hP hD hS (lv_sub hl [1, 2, 3, 4, 5, 6, 7, 0] rfl)
      · skip
        have k26 : iz < nz := k_nle (by omega) (by omega) hc26
        refine lv_aload_n hx hb dX2_thought_29 rfl (lv_at hl 0 rfl) ?_
        refine va_get (D := G) (ci := 2) (v := .ref shz) (C := RX2) (T := TX2) (N := 10) hx hb hts hinX2 hown hK hP 0 rfl rfl 7 (by decide) hf19 (fun _ h9 => h9) rfl dX2_thought_30 ?_
        refine lv_iload hx hb dX2_thought_33 (lv_at hl 7 rfl) ?_
        refine lv_aload_n hx hb dX2_thought_35 rfl (lv_at hl 0 rfl) ?_
        refine va_get (D := G) (ci := 2) (v := .ref liz) (C := RX2) (T := TX2) (N := 10) hx hb hts hinX2 hown hK hP 0 rfl rfl 5 (by decide) hf13 (fun _ h9 => h9) rfl dX2_thought_36 ?_
        refine lv_iload hx hb dX2_thought_39 (lv_at hl 7 rfl) ?_
        refine zA_ld hx hb hK hP 2 0 rfl rfl (by omega) (by decide) dX2_thought_41 ?_
        refine zA_st (x := Dz iz) hx hb hK hP hD hS 4 0 rfl rfl (by omega) (by decide) dX2_thought_42 (fun H locs hP hD hS => ?_)
        have hP : va_P G vwCl (wm cI oz loz liz siz shz saz nz camez cz gz louz Dz Sz (upd (flF iz Dz shdz) iz (Dz iz)) (flF iz Sz shsz) thz) H := hP
        have hD : va_D A (wm cI oz loz liz siz shz saz nz camez cz gz louz Dz Sz (upd (flF iz Dz shdz) iz (Dz iz)) (flF iz Sz shsz) thz) := hD
        refine lv_aload_n hx hb dX2_thought_43 rfl (lv_at hl 0 rfl) ?_
        refine va_get (D := G) (ci := 2) (v := .ref saz) (C := RX2) (T := TX2) (N := 10) hx hb hts hinX2 hown hK hP 0 rfl rfl 8 (by decide) hf22 (fun _ h9 => h9) rfl dX2_thought_44 ?_
        refine lv_iload hx hb dX2_thought_47 (lv_at hl 7 rfl) ?_
        refine lv_aload_n hx hb dX2_thought_49 rfl (lv_at hl 0 rfl) ?_
        refine va_get (D := G) (ci := 2) (v := .ref siz) (C := RX2) (T := TX2) (N := 10) hx hb hts hinX2 hown hK hP 0 rfl rfl 6 (by decide) hf16 (fun _ h9 => h9) rfl dX2_thought_50 ?_
        refine lv_iload hx hb dX2_thought_53 (lv_at hl 7 rfl) ?_
        refine zA_ld hx hb hK hP 3 0 rfl rfl (by omega) (by decide) dX2_thought_55 ?_
        refine zA_st (x := Sz iz) hx hb hK hP hD hS 5 0 rfl rfl (by omega) (by decide) dX2_thought_56 (fun H locs hP hD hS => ?_)
        have hP : va_P G vwCl (wm cI oz loz liz siz shz saz nz camez cz gz louz Dz Sz (upd (flF iz Dz shdz) iz (Dz iz)) (upd (flF iz Sz shsz) iz (Sz iz)) thz) H := hP
        have hD : va_D A (wm cI oz loz liz siz shz saz nz camez cz gz louz Dz Sz (upd (flF iz Dz shdz) iz (Dz iz)) (upd (flF iz Sz shsz) iz (Sz iz)) thz) := hD
        have hP : va_P G vwCl (wm cI oz loz liz siz shz saz nz camez cz gz louz Dz Sz (flF (iz + 1) Dz shdz) (flF (iz + 1) Sz shsz) thz) H := by rw [← flF_succ, ← flF_succ]; exact hP
        have hD : va_D A (wm cI oz loz liz siz shz saz nz camez cz gz louz Dz Sz (flF (iz + 1) Dz shdz) (flF (iz + 1) Sz shsz) thz) := by rw [← flF_succ, ← flF_succ]; exact hD
        refine lv_iinc (v := nI (iz + 1)) (lv' := [(7, .int (nI (iz + 1))), (0, .ref oz), (1, .int pl), (2, .int (bI dq)), (3, .int (nI nz)), (4, .int cz), (5, .int gz), (6, .int (-1))]) hx hb dX2_thought_57 hl (k := 7) rfl (nI_1 _) (by decide) rfl (fun ls hl => ?_)
        refine lv_goto (tgt := 23) hx hb dX2_thought_60 (by decide) ?_
        exact ih (iz + 1) (by omega) (by omega) _ _ _ hP hD hS (lv_sub hl [1, 2, 3, 4, 5, 6, 7, 0] rfl)
  exact loop (nz + 1) 0 (by omega) (by omega) _ _ _ hP hD hS (lv_sub hl [5, 6, 7, 4, 3, 2, 1, 0] rfl)
set_option maxHeartbeats 4000000 in
set_option maxRecDepth 100000 in
theorem m_comparisonsToEmpty (l : Launch) (G : va_G) (cI : ClassId) (oz loz liz siz shz saz : Nat) (nz camez : Nat) (cz gz : Int32) (louz Dz Sz shdz shsz : Fn) (thz : Int32) (hn : nz ≤ 63) (hc9 : camez ≤ 500) (hS1 : okS Sz) (hD1 : okD nz Dz)  : zC_i l yX2_comparisonsToEmpty wsX2_comparisonsToEmpty ({ frames := 3, cells := 0, slots := 0, locals := 76 }) G [(cI, .int)] (wm cI oz loz liz siz shz saz nz camez cz gz louz Dz Sz shdz shsz thz) (wm cI oz loz liz siz shz saz nz camez cz gz louz (flF nz (flF nz Dz shdz) (wD (rmsF nz (vM louz Dz Sz nz cz gz)))) (flF nz (flF nz Sz shsz) (wS (rmsF nz (vM louz Dz Sz nz cz gz)))) (flF nz Dz shdz) (flF nz Sz shsz) (nI 0)) [.ref oz] (wc (rmsF nz (vM louz Dz Sz nz cz gz)) - cz) := by
  refine zB_i (cc := cX2_comparisonsToEmpty) (maxL := 1) (ret := (some .int)) (by decide) rfl (Nat.le_of_ble_eq_true rfl) ?_
  intro p e s m args below meth c0 A hF hr hlk hK hA hP hD hS ls hl
  have hx := hF.1
  have hb := hF.2.1
  have hown := hF.2.2.2.1
  have hts := hF.2.2.2.2
  have hf25 := hts (.fieldLink RX2 25 "SnoringDukesModel" "thrown" "I") (by decide +kernel)
  have hf29 := hts (.fieldLink RX2 29 "SnoringDukesModel" "many" "I") (by decide +kernel)
  have hinX2 : ∀ wz ∈ wsX20, wz ∈ wsX2_comparisonsToEmpty := by decide +kernel
  have hl : lv_has ls 1 [(0, .ref oz)] := hl
  refine lv_aload_n hx hb dX2_comparisonsToEmpty_0 rfl (lv_at hl 0 rfl) ?_
  refine lv_iconst (v := nI 0) hx hb dX2_comparisonsToEmpty_1 (by decide) ?_
  refine va_put (D := G) (ci := 2) (v := .int (nI 0)) (ty := .int) (C := RX2) (T := TX2) (N := 10) hx hb hts hinX2 tyX2 tyX2_ok nmX2 hown hK hP hD hS 0 rfl rfl 9 (by decide) hf25 (fun _ h9 => h9) rfl (by decide +kernel) rfl rfl (Nat.le_of_ble_eq_true rfl) dX2_comparisonsToEmpty_2 (fun H locs hP hD hS => ?_)
  have hP : va_P G vwCl (wm cI oz loz liz siz shz saz nz camez cz gz louz Dz Sz shdz shsz (nI 0)) H := hP
  have hD : va_D A (wm cI oz loz liz siz shz saz nz camez cz gz louz Dz Sz shdz shsz (nI 0)) := hD
  refine lv_aload_n hx hb dX2_comparisonsToEmpty_5 rfl (lv_at hl 0 rfl) ?_
  refine lv_aload_n hx hb dX2_comparisonsToEmpty_6 rfl (lv_at hl 0 rfl) ?_
  refine va_get (D := G) (ci := 2) (v := .int (nI nz)) (C := RX2) (T := TX2) (N := 10) hx hb hts hinX2 hown hK hP 0 rfl rfl 0 (by decide) hf29 (fun _ h9 => h9) rfl dX2_comparisonsToEmpty_7 ?_
  refine lv_iconst (v := nI 1) hx hb dX2_comparisonsToEmpty_10 (by decide) ?_
  refine lv_isub hx hb dX2_comparisonsToEmpty_11 ?_
  refine lv_iconst (v := nI 0) hx hb dX2_comparisonsToEmpty_12 (by decide) ?_
  refine zK_vi (As := [.int ((nI nz) - (nI 1)), .int (nI 0)]) (rest := []) hF (m_thought l G cI oz loz liz siz shz saz nz camez cz gz louz Dz Sz shdz shsz (nI 0) hn hc9 hS1 hD1 ((nI nz) - (nI 1)) nz (by omega) (pk_sub_toInt (by omega) (by decide)) false) (cwV 2 hts gX2_comparisonsToEmpty_X2_thought rfl rfl rfl (by decide +kernel) ⟨Nat.le_of_ble_eq_true rfl, Nat.le_of_ble_eq_true rfl⟩) hK hP hD hS hA (ci := 2) (q0 := 0) rfl rfl rfl (isC := [0, 1, 2, 3, 4, 5]) (isR := []) (perm := [0, 1, 2, 3, 4, 5]) (wr := []) (wN := wm cI oz loz liz siz shz saz nz camez cz gz louz (flF nz (flF nz Dz shdz) (wD (rmsF nz (vM louz Dz Sz nz cz gz)))) (flF nz (flF nz Sz shsz) (wS (rmsF nz (vM louz Dz Sz nz cz gz)))) (flF nz Dz shdz) (flF nz Sz shsz) (nI 0)) ⟨rfl, by decide, rfl, rfl, (fun _ hz => by cases hz), rfl, by decide⟩ [0] rfl rfl hl.1 rfl (Nat.le_of_ble_eq_true rfl) dX2_comparisonsToEmpty_13 ⟨Nat.le_refl _, Nat.le_refl _⟩ (fun H locs hP hD hS => ?_)
  refine zN (wc (rmsF nz (vM louz Dz Sz nz cz gz)) - cz) (y := (if false = true then tdF (vM louz Dz Sz nz cz gz) nz else wc (rmsF nz (vM louz Dz Sz nz cz gz)) - cz)) (if_neg (by decide)) ?_
  exact zE_i hF hr hlk hK hP hD hS dX2_comparisonsToEmpty_16
set_option maxHeartbeats 4000000 in
set_option maxRecDepth 100000 in
theorem m_leavesAt_x (l : Launch) (G : va_G) (cI : ClassId) (oz loz liz siz shz saz : Nat) (nz camez : Nat) (cz gz : Int32) (louz Dz Sz shdz shsz : Fn) (thz : Int32) (hn : nz ≤ 63) (hc9 : camez ≤ 500) (hS1 : okS Sz) (hD1 : okD nz Dz) (xz : Int32) (hno : hasI nz xz = false) : zC_i l yX2_leavesAt wsX2_leavesAt ({ frames := 3, cells := 0, slots := 0, locals := 76 }) G [(cI, .int)] (wm cI oz loz liz siz shz saz nz camez cz gz louz Dz Sz shdz shsz thz) (wm cI oz loz liz siz shz saz nz camez cz gz louz Dz Sz shdz shsz (nI 1)) [.ref oz, .int xz] (nI 0) := by
  refine zB_i (cc := cX2_leavesAt) (maxL := 2) (ret := (some .int)) (by decide) rfl (Nat.le_of_ble_eq_true rfl) ?_
  intro p e s m args below meth c0 A hF hr hlk hK hA hP hD hS ls hl
  have hx := hF.1
  have hb := hF.2.1
  have hown := hF.2.2.2.1
  have hts := hF.2.2.2.2
  have hl : lv_has ls 2 [(0, .ref oz), (1, .int xz)] := hl
  refine lv_aload_n hx hb dX2_leavesAt_0 rfl (lv_at hl 0 rfl) ?_
  refine lv_iload_n hx hb dX2_leavesAt_1 rfl (lv_at hl 1 rfl) ?_
  refine zK_vi (As := [.int xz]) (rest := []) hF (m_isBerth l G cI oz loz liz siz shz saz nz camez cz gz louz Dz Sz shdz shsz thz hn hc9 hS1 hD1 xz) (cwV 1 hts gX2_leavesAt_X2_isBerth rfl rfl rfl (by decide +kernel) ⟨Nat.le_of_ble_eq_true rfl, Nat.le_of_ble_eq_true rfl⟩) hK hP hD hS hA (ci := 2) (q0 := 0) rfl rfl rfl (isC := [0, 1, 2, 3, 4, 5]) (isR := []) (perm := [0, 1, 2, 3, 4, 5]) (wr := []) (wN := wm cI oz loz liz siz shz saz nz camez cz gz louz Dz Sz shdz shsz (bI (!hasI nz xz))) ⟨rfl, by decide, rfl, rfl, (fun _ hz => by cases hz), rfl, by decide⟩ [0] rfl rfl hl.1 rfl (Nat.le_of_ble_eq_true rfl) dX2_leavesAt_2 ⟨Nat.le_refl _, Nat.le_refl _⟩ (fun H locs hP hD hS => ?_)
  rw [hno] at hP hD
  have hP : va_P G vwCl (wm cI oz loz liz siz shz saz nz camez cz gz louz Dz Sz shdz shsz (nI 1)) H := hP
  have hD : va_D A (wm cI oz loz liz siz shz saz nz camez cz gz louz Dz Sz shdz shsz (nI 1)) := hD
  refine zN (nI 0) (y := (bI (hasI nz xz))) (by rw [hno]; rfl) ?_
  refine lv_if_eq (tgt := 17) hx hb dX2_leavesAt_5 (by decide) (fun hc5 => ?_) (fun hc5 => ?_)
  · skip
    have k5 : 0 = 0 := k0_eq (by omega) hc5
    refine lv_iconst (v := nI 0) hx hb dX2_leavesAt_17 (by decide) ?_
    exact zE_i hF hr hlk hK hP hD hS dX2_leavesAt_18
  · exact absurd hc5 (by decide)
set_option maxHeartbeats 4000000 in
set_option maxRecDepth 100000 in
theorem m_leavesAt_t (l : Launch) (G : va_G) (cI : ClassId) (oz loz liz siz shz saz : Nat) (nz camez : Nat) (cz gz : Int32) (louz Dz Sz shdz shsz : Fn) (thz : Int32) (hn : nz ≤ 63) (hc9 : camez ≤ 500) (hS1 : okS Sz) (hD1 : okD nz Dz) (bz : Nat) (hb9 : bz < nz) : zC_i l yX2_leavesAt wsX2_leavesAt ({ frames := 3, cells := 0, slots := 0, locals := 76 }) G [(cI, .int)] (wm cI oz loz liz siz shz saz nz camez cz gz louz Dz Sz shdz shsz thz) (wm cI oz loz liz siz shz saz nz camez cz gz louz (flF nz (flF nz Dz shdz) (wD (rmsF (bz + 1) (vM louz Dz Sz nz cz gz)))) (flF nz (flF nz Sz shsz) (wS (rmsF (bz + 1) (vM louz Dz Sz nz cz gz)))) (flF nz Dz shdz) (flF nz Sz shsz) (nI 0)) [.ref oz, .int (nI bz)] (wD (rmsF bz (vM louz Dz Sz nz cz gz)) 0) := by
  refine zB_i (cc := cX2_leavesAt) (maxL := 2) (ret := (some .int)) (by decide) rfl (Nat.le_of_ble_eq_true rfl) ?_
  intro p e s m args below meth c0 A hF hr hlk hK hA hP hD hS ls hl
  have hx := hF.1
  have hb := hF.2.1
  have hown := hF.2.2.2.1
  have hts := hF.2.2.2.2
  have hl : lv_has ls 2 [(0, .ref oz), (1, .int (nI bz))] := hl
  have hyes : hasI nz (nI bz) = true := by rw [hasI_nI (by omega) (by omega)]; exact decide_eq_true hb9
  refine lv_aload_n hx hb dX2_leavesAt_0 rfl (lv_at hl 0 rfl) ?_
  refine lv_iload_n hx hb dX2_leavesAt_1 rfl (lv_at hl 1 rfl) ?_
  refine zK_vi (As := [.int (nI bz)]) (rest := []) hF (m_isBerth l G cI oz loz liz siz shz saz nz camez cz gz louz Dz Sz shdz shsz thz hn hc9 hS1 hD1 (nI bz)) (cwV 1 hts gX2_leavesAt_X2_isBerth rfl rfl rfl (by decide +kernel) ⟨Nat.le_of_ble_eq_true rfl, Nat.le_of_ble_eq_true rfl⟩) hK hP hD hS hA (ci := 2) (q0 := 0) rfl rfl rfl (isC := [0, 1, 2, 3, 4, 5]) (isR := []) (perm := [0, 1, 2, 3, 4, 5]) (wr := []) (wN := wm cI oz loz liz siz shz saz nz camez cz gz louz Dz Sz shdz shsz (bI (!hasI nz (nI bz)))) ⟨rfl, by decide, rfl, rfl, (fun _ hz => by cases hz), rfl, by decide⟩ [0] rfl rfl hl.1 rfl (Nat.le_of_ble_eq_true rfl) dX2_leavesAt_2 ⟨Nat.le_refl _, Nat.le_refl _⟩ (fun H locs hP hD hS => ?_)
  rw [hyes] at hP hD
  have hP : va_P G vwCl (wm cI oz loz liz siz shz saz nz camez cz gz louz Dz Sz shdz shsz (nI 0)) H := hP
  have hD : va_D A (wm cI oz loz liz siz shz saz nz camez cz gz louz Dz Sz shdz shsz (nI 0)) := hD
  refine zN (nI 1) (y := (bI (hasI nz (nI bz)))) (by rw [hyes]; rfl) ?_
  refine lv_if_eq (tgt := 17) hx hb dX2_leavesAt_5 (by decide) (fun hc5 => ?_) (fun hc5 => ?_)
  · exact absurd hc5 (by decide)
  · skip
    have k5 : 0 < 1 := k0_ne (by omega) hc5
    refine lv_aload_n hx hb dX2_leavesAt_8 rfl (lv_at hl 0 rfl) ?_
    refine lv_iload_n hx hb dX2_leavesAt_9 rfl (lv_at hl 1 rfl) ?_
    refine lv_iconst (v := nI 1) hx hb dX2_leavesAt_10 (by decide) ?_
    refine zK_vi (As := [.int (nI bz), .int (nI 1)]) (rest := []) hF (m_thought l G cI oz loz liz siz shz saz nz camez cz gz louz Dz Sz shdz shsz (nI 0) hn hc9 hS1 hD1 (nI bz) (bz + 1) (by omega) (by rw [nI_toInt (by omega)]; omega) true) (cwV 2 hts gX2_leavesAt_X2_thought rfl rfl rfl (by decide +kernel) ⟨Nat.le_of_ble_eq_true rfl, Nat.le_of_ble_eq_true rfl⟩) hK hP hD hS hA (ci := 2) (q0 := 0) rfl rfl rfl (isC := [0, 1, 2, 3, 4, 5]) (isR := []) (perm := [0, 1, 2, 3, 4, 5]) (wr := []) (wN := wm cI oz loz liz siz shz saz nz camez cz gz louz (flF nz (flF nz Dz shdz) (wD (rmsF (bz + 1) (vM louz Dz Sz nz cz gz)))) (flF nz (flF nz Sz shsz) (wS (rmsF (bz + 1) (vM louz Dz Sz nz cz gz)))) (flF nz Dz shdz) (flF nz Sz shsz) (nI 0)) ⟨rfl, by decide, rfl, rfl, (fun _ hz => by cases hz), rfl, by decide⟩ [0] rfl rfl hl.1 rfl (Nat.le_of_ble_eq_true rfl) dX2_leavesAt_11 ⟨Nat.le_refl _, Nat.le_refl _⟩ (fun H locs hP hD hS => ?_)
    refine zN (wD (rmsF bz (vM louz Dz Sz nz cz gz)) 0) (y := (if true = true then tdF (vM louz Dz Sz nz cz gz) (bz + 1) else wc (rmsF (bz + 1) (vM louz Dz Sz nz cz gz)) - cz)) (if_pos rfl) ?_
    refine lv_goto (tgt := 18) hx hb dX2_leavesAt_14 (by decide) ?_
    exact zE_i hF hr hlk hK hP hD hS dX2_leavesAt_18
set_option maxHeartbeats 4000000 in
set_option maxRecDepth 100000 in
theorem m_quieterThan_x (l : Launch) (G : va_G) (cI : ClassId) (oz loz liz siz shz saz : Nat) (nz camez : Nat) (cz gz : Int32) (louz Dz Sz shdz shsz : Fn) (thz : Int32) (hn : nz ≤ 63) (hc9 : camez ≤ 500) (hS1 : okS Sz) (hD1 : okD nz Dz) (xz : Int32) (hno : ¬ fnd Dz xz nz < nz) : zC_i l yX2_quieterThan wsX2_quieterThan ({ frames := 1, cells := 0, slots := 0, locals := 22 }) G [(cI, .int)] (wm cI oz loz liz siz shz saz nz camez cz gz louz Dz Sz shdz shsz thz) (wm cI oz loz liz siz shz saz nz camez cz gz louz Dz Sz shdz shsz (nI 1)) [.ref oz, .int xz] (nI 0) := by
  refine zB_i (cc := cX2_quieterThan) (maxL := 5) (ret := (some .int)) (by decide) rfl (Nat.le_of_ble_eq_true rfl) ?_
  intro p e s m args below meth c0 A hF hr hlk hK hA hP hD hS ls hl
  have hx := hF.1
  have hb := hF.2.1
  have hown := hF.2.2.2.1
  have hts := hF.2.2.2.2
  have hf25 := hts (.fieldLink RX2 25 "SnoringDukesModel" "thrown" "I") (by decide +kernel)
  have hf29 := hts (.fieldLink RX2 29 "SnoringDukesModel" "many" "I") (by decide +kernel)
  have hf7 := hts (.fieldLink RX2 7 "SnoringDukesModel" "loud" "[I") (by decide +kernel)
  have hf13 := hts (.fieldLink RX2 13 "SnoringDukesModel" "lies" "[I") (by decide +kernel)
  have hinX2 : ∀ wz ∈ wsX20, wz ∈ wsX2_quieterThan := by decide +kernel
  have hl : lv_has ls 5 [(0, .ref oz), (1, .int xz)] := hl
  refine lv_aload_n hx hb dX2_quieterThan_0 rfl (lv_at hl 0 rfl) ?_
  refine lv_iload_n hx hb dX2_quieterThan_1 rfl (lv_at hl 1 rfl) ?_
  refine zK_vi (As := [.int xz]) (rest := []) hF (m_find l G cI oz loz liz siz shz saz nz camez cz gz louz Dz Sz shdz shsz thz hn hc9 hS1 hD1 xz) (cwV 1 hts gX2_quieterThan_X2_find rfl rfl rfl (by decide +kernel) ⟨Nat.le_of_ble_eq_true rfl, Nat.le_of_ble_eq_true rfl⟩) hK hP hD hS hA (ci := 2) (q0 := 0) rfl rfl rfl (isC := [0, 1, 2, 3, 4, 5]) (isR := []) (perm := [0, 1, 2, 3, 4, 5]) (wr := []) (wN := wm cI oz loz liz siz shz saz nz camez cz gz louz Dz Sz shdz shsz thz) ⟨rfl, by decide, rfl, rfl, (fun _ hz => by cases hz), rfl, by decide⟩ [0] rfl rfl hl.1 rfl (Nat.le_of_ble_eq_true rfl) dX2_quieterThan_2 ⟨Nat.le_refl _, Nat.le_refl _⟩ (fun H locs hP hD hS => ?_)
  refine zN (-1) (y := (fndI Dz nz xz)) (fndI_no hno) ?_
  refine lv_istore_n (lv' := [(2, .int (-1)), (0, .ref oz), (1, .int xz)]) hx hb dX2_quieterThan_5 rfl hl (by decide) rfl (fun ls hl => ?_)
  refine lv_aload_n hx hb dX2_quieterThan_6 rfl (lv_at hl 1 rfl) ?_
  refine lv_iload_n hx hb dX2_quieterThan_7 rfl (lv_at hl 0 rfl) ?_
  refine lv_if_ge (tgt := 15) hx hb dX2_quieterThan_8 (by decide) (fun hc8 => ?_) (fun hc8 => ?_)
  · exact absurd hc8 (by decide)
  · skip
    refine lv_iconst (v := nI 1) hx hb dX2_quieterThan_11 (by decide) ?_
    refine lv_goto (tgt := 16) hx hb dX2_quieterThan_12 (by decide) ?_
    refine va_put (D := G) (ci := 2) (v := .int (nI 1)) (ty := .int) (C := RX2) (T := TX2) (N := 10) hx hb hts hinX2 tyX2 tyX2_ok nmX2 hown hK hP hD hS 0 rfl rfl 9 (by decide) hf25 (fun _ h9 => h9) rfl (by decide +kernel) rfl rfl (Nat.le_of_ble_eq_true rfl) dX2_quieterThan_16 (fun H locs hP hD hS => ?_)
    have hP : va_P G vwCl (wm cI oz loz liz siz shz saz nz camez cz gz louz Dz Sz shdz shsz (nI 1)) H := hP
    have hD : va_D A (wm cI oz loz liz siz shz saz nz camez cz gz louz Dz Sz shdz shsz (nI 1)) := hD
    refine lv_iconst (v := nI 0) hx hb dX2_quieterThan_19 (by decide) ?_
    refine lv_istore_n (lv' := [(3, .int (nI 0)), (2, .int (-1)), (0, .ref oz), (1, .int xz)]) hx hb dX2_quieterThan_20 rfl hl (by decide) rfl (fun ls hl => ?_)
    refine lv_iconst (v := nI 0) hx hb dX2_quieterThan_21 (by decide) ?_
    refine lv_istore (lv' := [(4, .int (nI 0)), (3, .int (nI 0)), (2, .int (-1)), (0, .ref oz), (1, .int xz)]) hx hb dX2_quieterThan_22 hl (by decide) rfl (fun ls hl => ?_)
    refine lv_iload hx hb dX2_quieterThan_24 (lv_at hl 0 rfl) ?_
    refine lv_aload_n hx hb dX2_quieterThan_26 rfl (lv_at hl 3 rfl) ?_
    refine va_get (D := G) (ci := 2) (v := .int (nI nz)) (C := RX2) (T := TX2) (N := 10) hx hb hts hinX2 hown hK hP 0 rfl rfl 0 (by decide) hf29 (fun _ h9 => h9) rfl dX2_quieterThan_27 ?_
    refine lv_icmp_ge (tgt := 75) hx hb dX2_quieterThan_30 (by decide) (fun hc30 => ?_) (fun hc30 => ?_)
    · skip
      have k30 : nz ≤ 0 := k_le (by omega) (by omega) hc30
      refine lv_iload_n hx hb dX2_quieterThan_75 rfl (lv_at hl 1 rfl) ?_
      exact zE_i hF hr hlk hK hP hD hS dX2_quieterThan_76
    · skip
      have k30 : 0 < nz := k_nle (by omega) (by omega) hc30
      refine lv_aload_n hx hb dX2_quieterThan_33 rfl (lv_at hl 3 rfl) ?_
      refine va_get (D := G) (ci := 2) (v := .int (nI 1)) (C := RX2) (T := TX2) (N := 10) hx hb hts hinX2 hown hK hP 0 rfl rfl 9 (by decide) hf25 (fun _ h9 => h9) rfl dX2_quieterThan_34 ?_
      refine lv_if_ne (tgt := 75) hx hb dX2_quieterThan_37 (by decide) (fun hc37 => ?_) (fun hc37 => ?_)
      · skip
        have k37 : 0 < 1 := k0_ne (by omega) hc37
        refine lv_iload_n hx hb dX2_quieterThan_75 rfl (lv_at hl 1 rfl) ?_
        exact zE_i hF hr hlk hK hP hD hS dX2_quieterThan_76
      · exact absurd hc37 (by decide)
set_option maxHeartbeats 4000000 in
set_option maxRecDepth 100000 in
theorem m_quieterThan_t (l : Launch) (G : va_G) (cI : ClassId) (oz loz liz siz shz saz : Nat) (nz camez : Nat) (cz gz : Int32) (louz Dz Sz shdz shsz : Fn) (thz : Int32) (hn : nz ≤ 63) (hc9 : camez ≤ 500) (hS1 : okS Sz) (hD1 : okD nz Dz) (bz kb : Nat) (hb9 : bz < nz) (hkb : kb < 500) (hf : fnd Dz (nI kb) nz = bz)  : zC_i l yX2_quieterThan wsX2_quieterThan ({ frames := 1, cells := 0, slots := 0, locals := 22 }) G [(cI, .int)] (wm cI oz loz liz siz shz saz nz camez cz gz louz Dz Sz shdz shsz thz) (wm cI oz loz liz siz shz saz nz camez cz gz louz Dz Sz shdz shsz (nI 0)) [.ref oz, .int (nI kb)] (qtF louz Dz kb nz) := by
  refine zB_i (cc := cX2_quieterThan) (maxL := 5) (ret := (some .int)) (by decide) rfl (Nat.le_of_ble_eq_true rfl) ?_
  intro p e s m args below meth c0 A hF hr hlk hK hA hP hD hS ls hl
  have hx := hF.1
  have hb := hF.2.1
  have hown := hF.2.2.2.1
  have hts := hF.2.2.2.2
  have hf25 := hts (.fieldLink RX2 25 "SnoringDukesModel" "thrown" "I") (by decide +kernel)
  have hf29 := hts (.fieldLink RX2 29 "SnoringDukesModel" "many" "I") (by decide +kernel)
  have hf7 := hts (.fieldLink RX2 7 "SnoringDukesModel" "loud" "[I") (by decide +kernel)
  have hf13 := hts (.fieldLink RX2 13 "SnoringDukesModel" "lies" "[I") (by decide +kernel)
  have hinX2 : ∀ wz ∈ wsX20, wz ∈ wsX2_quieterThan := by decide +kernel
  have hl : lv_has ls 5 [(0, .ref oz), (1, .int (nI kb))] := hl
  refine lv_aload_n hx hb dX2_quieterThan_0 rfl (lv_at hl 0 rfl) ?_
  refine lv_iload_n hx hb dX2_quieterThan_1 rfl (lv_at hl 1 rfl) ?_
  refine zK_vi (As := [.int (nI kb)]) (rest := []) hF (m_find l G cI oz loz liz siz shz saz nz camez cz gz louz Dz Sz shdz shsz thz hn hc9 hS1 hD1 (nI kb)) (cwV 1 hts gX2_quieterThan_X2_find rfl rfl rfl (by decide +kernel) ⟨Nat.le_of_ble_eq_true rfl, Nat.le_of_ble_eq_true rfl⟩) hK hP hD hS hA (ci := 2) (q0 := 0) rfl rfl rfl (isC := [0, 1, 2, 3, 4, 5]) (isR := []) (perm := [0, 1, 2, 3, 4, 5]) (wr := []) (wN := wm cI oz loz liz siz shz saz nz camez cz gz louz Dz Sz shdz shsz thz) ⟨rfl, by decide, rfl, rfl, (fun _ hz => by cases hz), rfl, by decide⟩ [0] rfl rfl hl.1 rfl (Nat.le_of_ble_eq_true rfl) dX2_quieterThan_2 ⟨Nat.le_refl _, Nat.le_refl _⟩ (fun H locs hP hD hS => ?_)
  refine zN (nI bz) (y := (fndI Dz nz (nI kb))) (fndI_at hf hb9) ?_
  refine lv_istore_n (lv' := [(2, .int (nI bz)), (0, .ref oz), (1, .int (nI kb))]) hx hb dX2_quieterThan_5 rfl hl (by decide) rfl (fun ls hl => ?_)
  refine lv_aload_n hx hb dX2_quieterThan_6 rfl (lv_at hl 1 rfl) ?_
  refine lv_iload_n hx hb dX2_quieterThan_7 rfl (lv_at hl 0 rfl) ?_
  refine lv_if_ge (tgt := 15) hx hb dX2_quieterThan_8 (by decide) (fun hc8 => ?_) (fun hc8 => ?_)
  · skip
    refine lv_iconst (v := nI 0) hx hb dX2_quieterThan_15 (by decide) ?_
    refine va_put (D := G) (ci := 2) (v := .int (nI 0)) (ty := .int) (C := RX2) (T := TX2) (N := 10) hx hb hts hinX2 tyX2 tyX2_ok nmX2 hown hK hP hD hS 0 rfl rfl 9 (by decide) hf25 (fun _ h9 => h9) rfl (by decide +kernel) rfl rfl (Nat.le_of_ble_eq_true rfl) dX2_quieterThan_16 (fun H locs hP hD hS => ?_)
    have hP : va_P G vwCl (wm cI oz loz liz siz shz saz nz camez cz gz louz Dz Sz shdz shsz (nI 0)) H := hP
    have hD : va_D A (wm cI oz loz liz siz shz saz nz camez cz gz louz Dz Sz shdz shsz (nI 0)) := hD
    refine lv_iconst (v := nI 0) hx hb dX2_quieterThan_19 (by decide) ?_
    refine lv_istore_n (lv' := [(3, .int (nI 0)), (2, .int (nI bz)), (0, .ref oz), (1, .int (nI kb))]) hx hb dX2_quieterThan_20 rfl hl (by decide) rfl (fun ls hl => ?_)
    refine lv_iconst (v := nI 0) hx hb dX2_quieterThan_21 (by decide) ?_
    refine lv_istore (lv' := [(4, .int (nI 0)), (3, .int (nI 0)), (2, .int (nI bz)), (0, .ref oz), (1, .int (nI kb))]) hx hb dX2_quieterThan_22 hl (by decide) rfl (fun ls hl => ?_)
    have hl : lv_has ls 5 [(4, .int (nI 0)), (3, .int (qtF louz Dz kb 0)), (2, .int (nI bz)), (0, .ref oz), (1, .int (nI kb))] := hl
    have loop : ∀ (f9 : Nat) (iz : Nat), (iz ≤ nz) → nz - iz < f9 → ∀ (H : Heap) (locs : List Loc) (ls : Array Slot), va_P G vwCl (wm cI oz loz liz siz shz saz nz camez cz gz louz Dz Sz shdz shsz (nI 0)) H → va_D A (wm cI oz loz liz siz shz saz nz camez cz gz louz Dz Sz shdz shsz (nI 0)) → va_S A s.heap H locs → lv_has ls 5 [(0, .ref oz), (1, .int (nI kb)), (2, .int (nI bz)), (3, .int (qtF louz Dz kb iz)), (4, .int (nI iz))] → W p l e ({ frames := 1, cells := 0, slots := 0, locals := 22 }) s m args below meth c0 H locs 0 0 (zQ_i below G [(cI, .int)] (wm cI oz loz liz siz shz saz nz camez cz gz louz Dz Sz shdz shsz (nI 0)) (qtF louz Dz kb nz) A args s) (F0 m 24 ls []) := by
      intro f9
      induction f9 with
      | zero => intro iz hi hf; exact absurd hf (Nat.not_lt_zero _)
      | succ f9 ih =>
        intro iz hi hf H locs ls hP hD hS hl
        refine lv_iload hx hb dX2_quieterThan_24 (lv_at hl 4 rfl) ?_
        refine lv_aload_n hx hb dX2_quieterThan_26 rfl (lv_at hl 0 rfl) ?_
        refine va_get (D := G) (ci := 2) (v := .int (nI nz)) (C := RX2) (T := TX2) (N := 10) hx hb hts hinX2 hown hK hP 0 rfl rfl 0 (by decide) hf29 (fun _ h9 => h9) rfl dX2_quieterThan_27 ?_
        refine lv_icmp_ge (tgt := 75) hx hb dX2_quieterThan_30 (by decide) (fun hc30 => ?_) (fun hc30 => ?_)
        · skip
          have k30 : nz ≤ iz := k_le (by omega) (by omega) hc30
          obtain rfl : nz = iz := by omega
          refine lv_iload_n hx hb dX2_quieterThan_75 rfl (lv_at hl 3 rfl) ?_
          exact zE_i hF hr hlk hK hP hD hS dX2_quieterThan_76
        · skip
          have k30 : iz < nz := k_nle (by omega) (by omega) hc30
          obtain ⟨ki, hki, hDi⟩ := hD1 iz k30
          refine lv_aload_n hx hb dX2_quieterThan_33 rfl (lv_at hl 0 rfl) ?_
          refine va_get (D := G) (ci := 2) (v := .int (nI 0)) (C := RX2) (T := TX2) (N := 10) hx hb hts hinX2 hown hK hP 0 rfl rfl 9 (by decide) hf25 (fun _ h9 => h9) rfl dX2_quieterThan_34 ?_
          refine lv_if_ne (tgt := 75) hx hb dX2_quieterThan_37 (by decide) (fun hc37 => ?_) (fun hc37 => ?_)
          · exact absurd hc37 (by decide)
          · skip
            have k37 : 0 = 0 := k0_eq (by omega) hc37
            refine lv_iload_n hx hb dX2_quieterThan_40 rfl (lv_at hl 3 rfl) ?_
            refine lv_aload_n hx hb dX2_quieterThan_41 rfl (lv_at hl 0 rfl) ?_
            refine va_get (D := G) (ci := 2) (v := .ref loz) (C := RX2) (T := TX2) (N := 10) hx hb hts hinX2 hown hK hP 0 rfl rfl 4 (by decide) hf7 (fun _ h9 => h9) rfl dX2_quieterThan_42 ?_
            refine lv_aload_n hx hb dX2_quieterThan_45 rfl (lv_at hl 0 rfl) ?_
            refine va_get (D := G) (ci := 2) (v := .ref liz) (C := RX2) (T := TX2) (N := 10) hx hb hts hinX2 hown hK hP 0 rfl rfl 5 (by decide) hf13 (fun _ h9 => h9) rfl dX2_quieterThan_46 ?_
            refine lv_iload hx hb dX2_quieterThan_49 (lv_at hl 4 rfl) ?_
            refine zA_ld hx hb hK hP 2 0 rfl rfl (by omega) (by decide) dX2_quieterThan_51 ?_
            refine zN (nI ki) (y := (Dz iz)) (hDi) ?_
            refine zA_ld hx hb hK hP 1 0 rfl rfl (by omega) (by decide) dX2_quieterThan_52 ?_
            refine lv_aload_n hx hb dX2_quieterThan_53 rfl (lv_at hl 0 rfl) ?_
            refine va_get (D := G) (ci := 2) (v := .ref loz) (C := RX2) (T := TX2) (N := 10) hx hb hts hinX2 hown hK hP 0 rfl rfl 4 (by decide) hf7 (fun _ h9 => h9) rfl dX2_quieterThan_54 ?_
            refine lv_iload_n hx hb dX2_quieterThan_57 rfl (lv_at hl 1 rfl) ?_
            refine zA_ld hx hb hK hP 1 0 rfl rfl (by omega) (by decide) dX2_quieterThan_58 ?_
            refine lv_icmp_ge (tgt := 66) hx hb dX2_quieterThan_59 (by decide) (fun hc59 => ?_) (fun hc59 => ?_)
            · skip
              refine lv_iconst (v := nI 0) hx hb dX2_quieterThan_66 (by decide) ?_
              refine lv_iadd hx hb dX2_quieterThan_67 ?_
              refine zN (qtF louz Dz kb (iz + 1)) (y := ((qtF louz Dz kb iz) + (nI 0))) (by rw [qtF, hDi, nI_clamp (by omega), if_neg (fa_nle hc59)]; exact z_add0 _) ?_
              refine lv_istore_n (lv' := [(3, .int (qtF louz Dz kb (iz + 1))), (0, .ref oz), (1, .int (nI kb)), (2, .int (nI bz)), (4, .int (nI iz))]) hx hb dX2_quieterThan_68 rfl hl (by decide) rfl (fun ls hl => ?_)
              refine lv_iinc (v := nI (iz + 1)) (lv' := [(4, .int (nI (iz + 1))), (3, .int (qtF louz Dz kb (iz + 1))), (0, .ref oz), (1, .int (nI kb)), (2, .int (nI bz))]) hx hb dX2_quieterThan_69 hl (k := 4) rfl (nI_1 _) (by decide) rfl (fun ls hl => ?_)
              refine lv_goto (tgt := 24) hx hb dX2_quieterThan_72 (by decide) ?_
              exact ih (iz + 1) (by omega) (by omega) _ _ _ hP hD hS (lv_sub hl [2, 3, 4, 1, 0] rfl)
            · skip
              refine lv_iconst (v := nI 1) hx hb dX2_quieterThan_62 (by decide) ?_
              refine lv_goto (tgt := 67) hx hb dX2_quieterThan_63 (by decide) ?_
              refine lv_iadd hx hb dX2_quieterThan_67 ?_
              refine zN (qtF louz Dz kb (iz + 1)) (y := ((qtF louz Dz kb iz) + (nI 1))) (by rw [qtF, hDi, nI_clamp (by omega), if_pos (fa_nlt hc59)]; rfl) ?_
              refine lv_istore_n (lv' := [(3, .int (qtF louz Dz kb (iz + 1))), (0, .ref oz), (1, .int (nI kb)), (2, .int (nI bz)), (4, .int (nI iz))]) hx hb dX2_quieterThan_68 rfl hl (by decide) rfl (fun ls hl => ?_)
              refine lv_iinc (v := nI (iz + 1)) (lv' := [(4, .int (nI (iz + 1))), (3, .int (qtF louz Dz kb (iz + 1))), (0, .ref oz), (1, .int (nI kb)), (2, .int (nI bz))]) hx hb dX2_quieterThan_69 hl (k := 4) rfl (nI_1 _) (by decide) rfl (fun ls hl => ?_)
              refine lv_goto (tgt := 24) hx hb dX2_quieterThan_72 (by decide) ?_
              exact ih (iz + 1) (by omega) (by omega) _ _ _ hP hD hS (lv_sub hl [2, 3, 4, 1, 0] rfl)
    exact loop (nz + 1) 0 (by omega) (by omega) _ _ _ hP hD hS (lv_sub hl [3, 4, 2, 1, 0] rfl)
  · skip
    exact absurd hc8 (fun zz => zz (nI_pos' (by omega)))
