/-! the reference: those that change who lies where -/
set_option maxHeartbeats 4000000 in
set_option maxRecDepth 100000 in
theorem m_come_1 (l : Launch) (G : va_G) (cI : ClassId) (oz loz liz siz shz saz : Nat) (nz camez : Nat) (cz gz : Int32) (louz Dz Sz shdz shsz : Fn) (thz : Int32) (hn : nz ≤ 63) (hc9 : camez ≤ 500) (hS1 : okS Sz) (hD1 : okD nz Dz) (xz : Int32) (hbad : isO xz (nI 0) (nI 999) = false) : zC_i l yX2_come wsX2_come ({ frames := 3, cells := 0, slots := 0, locals := 68 }) G [(cI, .int)] (wm cI oz loz liz siz shz saz nz camez cz gz louz Dz Sz shdz shsz thz) (wm cI oz loz liz siz shz saz nz camez cz gz louz Dz Sz shdz shsz (nI 1)) [.ref oz, .int xz] (nI 0) := by
  refine zB_i (cc := cX2_come) (maxL := 4) (ret := (some .int)) (by decide) rfl (Nat.le_of_ble_eq_true rfl) ?_
  intro p e s m args below meth c0 A hF hr hlk hK hA hP hD hS ls hl
  have hx := hF.1
  have hb := hF.2.1
  have hown := hF.2.2.2.1
  have hts := hF.2.2.2.2
  have hf29 := hts (.fieldLink RX2 29 "SnoringDukesModel" "many" "I") (by decide +kernel)
  have hf49 := hts (.fieldLink RX2 49 "SnoringDukesModel" "came" "I") (by decide +kernel)
  have hf25 := hts (.fieldLink RX2 25 "SnoringDukesModel" "thrown" "I") (by decide +kernel)
  have hf16 := hts (.fieldLink RX2 16 "SnoringDukesModel" "side" "[I") (by decide +kernel)
  have hinX2 : ∀ wz ∈ wsX20, wz ∈ wsX2_come := by decide +kernel
  have hl : lv_has ls 4 [(0, .ref oz), (1, .int xz)] := hl
  refine lv_aload_n hx hb dX2_come_0 rfl (lv_at hl 0 rfl) ?_
  refine lv_iload_n hx hb dX2_come_1 rfl (lv_at hl 1 rfl) ?_
  refine lv_iconst (v := nI 0) hx hb dX2_come_2 (by decide) ?_
  refine lv_sipush (v := nI 999) hx hb dX2_come_3 (by decide) ?_
  refine zK_si (av := [.int xz, .int (nI 0), .int (nI 999)]) (rest := [.ref oz]) hF (m_isOf l G xz (nI 0) (nI 999)) (va_cwS 3 hts gX2_come_X2_isOf rfl rfl rfl (by decide +kernel) ⟨Nat.le_of_ble_eq_true rfl, Nat.le_of_ble_eq_true rfl⟩) hK hP hD hS hA (isC := []) (isR := [0, 1, 2, 3, 4, 5]) (perm := [0, 1, 2, 3, 4, 5]) (wr := wm cI oz loz liz siz shz saz nz camez cz gz louz Dz Sz shdz shsz thz) (wN := wm cI oz loz liz siz shz saz nz camez cz gz louz Dz Sz shdz shsz thz) ⟨rfl, by decide, rfl, by decide, (fun _ _ hz => by cases hz), rfl, by decide⟩ [] rfl rfl hl.1 rfl (Nat.le_of_ble_eq_true rfl) dX2_come_6 ⟨Nat.le_refl _, Nat.le_refl _⟩ (fun H locs hP hD hS => ?_)
  refine zN (nI 0) (y := (bI (isO xz (nI 0) (nI 999)))) (by rw [hbad]; rfl) ?_
  refine lv_if_ne (tgt := 16) hx hb dX2_come_9 (by decide) (fun hc9 => ?_) (fun hc9 => ?_)
  · exact absurd hc9 (by decide)
  · skip
    have k9 : 0 = 0 := k0_eq (by omega) hc9
    refine lv_iconst (v := nI 1) hx hb dX2_come_12 (by decide) ?_
    refine lv_goto (tgt := 40) hx hb dX2_come_13 (by decide) ?_
    refine va_put (D := G) (ci := 2) (v := .int (nI 1)) (ty := .int) (C := RX2) (T := TX2) (N := 10) hx hb hts hinX2 tyX2 tyX2_ok nmX2 hown hK hP hD hS 0 rfl rfl 9 (by decide) hf25 (fun _ h9 => h9) rfl (by decide +kernel) rfl rfl (Nat.le_of_ble_eq_true rfl) dX2_come_40 (fun H locs hP hD hS => ?_)
    have hP : va_P G vwCl (wm cI oz loz liz siz shz saz nz camez cz gz louz Dz Sz shdz shsz (nI 1)) H := hP
    have hD : va_D A (wm cI oz loz liz siz shz saz nz camez cz gz louz Dz Sz shdz shsz (nI 1)) := hD
    refine lv_aload_n hx hb dX2_come_43 rfl (lv_at hl 0 rfl) ?_
    refine va_get (D := G) (ci := 2) (v := .int (nI 1)) (C := RX2) (T := TX2) (N := 10) hx hb hts hinX2 hown hK hP 0 rfl rfl 9 (by decide) hf25 (fun _ h9 => h9) rfl dX2_come_44 ?_
    refine lv_if_le (tgt := 52) hx hb dX2_come_47 (by decide) (fun hc47 => ?_) (fun hc47 => ?_)
    · exact absurd hc47 (by decide)
    · skip
      have k47 : 0 < 1 := k0_nle (by omega) hc47
      refine lv_iconst (v := nI 0) hx hb dX2_come_50 (by decide) ?_
      exact zE_i hF hr hlk hK hP hD hS dX2_come_51
set_option maxHeartbeats 4000000 in
set_option maxRecDepth 100000 in
theorem m_come_2 (l : Launch) (G : va_G) (cI : ClassId) (oz loz liz siz shz saz : Nat) (nz camez : Nat) (cz gz : Int32) (louz Dz Sz shdz shsz : Fn) (thz : Int32) (hn : nz ≤ 63) (hc9 : camez ≤ 500) (hS1 : okS Sz) (hD1 : okD nz Dz) (xz : Int32) (hok : isO xz (nI 0) (nI 999) = true) (hfull : nz = 63 ∨ camez = 500) : zC_i l yX2_come wsX2_come ({ frames := 3, cells := 0, slots := 0, locals := 68 }) G [(cI, .int)] (wm cI oz loz liz siz shz saz nz camez cz gz louz Dz Sz shdz shsz thz) (wm cI oz loz liz siz shz saz nz camez cz gz louz Dz Sz shdz shsz (nI 2)) [.ref oz, .int xz] (nI 0) := by
  refine zB_i (cc := cX2_come) (maxL := 4) (ret := (some .int)) (by decide) rfl (Nat.le_of_ble_eq_true rfl) ?_
  intro p e s m args below meth c0 A hF hr hlk hK hA hP hD hS ls hl
  have hx := hF.1
  have hb := hF.2.1
  have hown := hF.2.2.2.1
  have hts := hF.2.2.2.2
  have hf29 := hts (.fieldLink RX2 29 "SnoringDukesModel" "many" "I") (by decide +kernel)
  have hf49 := hts (.fieldLink RX2 49 "SnoringDukesModel" "came" "I") (by decide +kernel)
  have hf25 := hts (.fieldLink RX2 25 "SnoringDukesModel" "thrown" "I") (by decide +kernel)
  have hf16 := hts (.fieldLink RX2 16 "SnoringDukesModel" "side" "[I") (by decide +kernel)
  have hinX2 : ∀ wz ∈ wsX20, wz ∈ wsX2_come := by decide +kernel
  have hl : lv_has ls 4 [(0, .ref oz), (1, .int xz)] := hl
  refine lv_aload_n hx hb dX2_come_0 rfl (lv_at hl 0 rfl) ?_
  refine lv_iload_n hx hb dX2_come_1 rfl (lv_at hl 1 rfl) ?_
  refine lv_iconst (v := nI 0) hx hb dX2_come_2 (by decide) ?_
  refine lv_sipush (v := nI 999) hx hb dX2_come_3 (by decide) ?_
  refine zK_si (av := [.int xz, .int (nI 0), .int (nI 999)]) (rest := [.ref oz]) hF (m_isOf l G xz (nI 0) (nI 999)) (va_cwS 3 hts gX2_come_X2_isOf rfl rfl rfl (by decide +kernel) ⟨Nat.le_of_ble_eq_true rfl, Nat.le_of_ble_eq_true rfl⟩) hK hP hD hS hA (isC := []) (isR := [0, 1, 2, 3, 4, 5]) (perm := [0, 1, 2, 3, 4, 5]) (wr := wm cI oz loz liz siz shz saz nz camez cz gz louz Dz Sz shdz shsz thz) (wN := wm cI oz loz liz siz shz saz nz camez cz gz louz Dz Sz shdz shsz thz) ⟨rfl, by decide, rfl, by decide, (fun _ _ hz => by cases hz), rfl, by decide⟩ [] rfl rfl hl.1 rfl (Nat.le_of_ble_eq_true rfl) dX2_come_6 ⟨Nat.le_refl _, Nat.le_refl _⟩ (fun H locs hP hD hS => ?_)
  refine zN (nI 1) (y := (bI (isO xz (nI 0) (nI 999)))) (by rw [hok]; rfl) ?_
  refine lv_if_ne (tgt := 16) hx hb dX2_come_9 (by decide) (fun hc9 => ?_) (fun hc9 => ?_)
  · skip
    have k9 : 0 < 1 := k0_ne (by omega) hc9
    refine lv_aload_n hx hb dX2_come_16 rfl (lv_at hl 0 rfl) ?_
    refine va_get (D := G) (ci := 2) (v := .int (nI nz)) (C := RX2) (T := TX2) (N := 10) hx hb hts hinX2 hown hK hP 0 rfl rfl 0 (by decide) hf29 (fun _ h9 => h9) rfl dX2_come_17 ?_
    refine lv_bipush (v := nI 63) hx hb dX2_come_20 (by decide) ?_
    refine lv_icmp_eq (tgt := 35) hx hb dX2_come_22 (by decide) (fun hc22 => ?_) (fun hc22 => ?_)
    · skip
      have k22 : nz = 63 := k_eq (by omega) (by omega) hc22
      refine lv_iconst (v := nI 2) hx hb dX2_come_35 (by decide) ?_
      refine lv_goto (tgt := 40) hx hb dX2_come_36 (by decide) ?_
      refine va_put (D := G) (ci := 2) (v := .int (nI 2)) (ty := .int) (C := RX2) (T := TX2) (N := 10) hx hb hts hinX2 tyX2 tyX2_ok nmX2 hown hK hP hD hS 0 rfl rfl 9 (by decide) hf25 (fun _ h9 => h9) rfl (by decide +kernel) rfl rfl (Nat.le_of_ble_eq_true rfl) dX2_come_40 (fun H locs hP hD hS => ?_)
      have hP : va_P G vwCl (wm cI oz loz liz siz shz saz nz camez cz gz louz Dz Sz shdz shsz (nI 2)) H := hP
      have hD : va_D A (wm cI oz loz liz siz shz saz nz camez cz gz louz Dz Sz shdz shsz (nI 2)) := hD
      refine lv_aload_n hx hb dX2_come_43 rfl (lv_at hl 0 rfl) ?_
      refine va_get (D := G) (ci := 2) (v := .int (nI 2)) (C := RX2) (T := TX2) (N := 10) hx hb hts hinX2 hown hK hP 0 rfl rfl 9 (by decide) hf25 (fun _ h9 => h9) rfl dX2_come_44 ?_
      refine lv_if_le (tgt := 52) hx hb dX2_come_47 (by decide) (fun hc47 => ?_) (fun hc47 => ?_)
      · exact absurd hc47 (by decide)
      · skip
        have k47 : 0 < 2 := k0_nle (by omega) hc47
        refine lv_iconst (v := nI 0) hx hb dX2_come_50 (by decide) ?_
        exact zE_i hF hr hlk hK hP hD hS dX2_come_51
    · skip
      have k22 : nz ≠ 63 := k_ne (by omega) (by omega) hc22
      refine lv_aload_n hx hb dX2_come_25 rfl (lv_at hl 0 rfl) ?_
      refine va_get (D := G) (ci := 2) (v := .int (nI camez)) (C := RX2) (T := TX2) (N := 10) hx hb hts hinX2 hown hK hP 0 rfl rfl 1 (by decide) hf49 (fun _ h9 => h9) rfl dX2_come_26 ?_
      refine lv_sipush (v := nI 500) hx hb dX2_come_29 (by decide) ?_
      refine lv_icmp_ne (tgt := 39) hx hb dX2_come_32 (by decide) (fun hc32 => ?_) (fun hc32 => ?_)
      · skip
        have k32 : camez ≠ 500 := k_ne (by omega) (by omega) hc32
        exact absurd hfull (by omega)
      · skip
        have k32 : camez = 500 := k_eq (by omega) (by omega) hc32
        refine lv_iconst (v := nI 2) hx hb dX2_come_35 (by decide) ?_
        refine lv_goto (tgt := 40) hx hb dX2_come_36 (by decide) ?_
        refine va_put (D := G) (ci := 2) (v := .int (nI 2)) (ty := .int) (C := RX2) (T := TX2) (N := 10) hx hb hts hinX2 tyX2 tyX2_ok nmX2 hown hK hP hD hS 0 rfl rfl 9 (by decide) hf25 (fun _ h9 => h9) rfl (by decide +kernel) rfl rfl (Nat.le_of_ble_eq_true rfl) dX2_come_40 (fun H locs hP hD hS => ?_)
        have hP : va_P G vwCl (wm cI oz loz liz siz shz saz nz camez cz gz louz Dz Sz shdz shsz (nI 2)) H := hP
        have hD : va_D A (wm cI oz loz liz siz shz saz nz camez cz gz louz Dz Sz shdz shsz (nI 2)) := hD
        refine lv_aload_n hx hb dX2_come_43 rfl (lv_at hl 0 rfl) ?_
        refine va_get (D := G) (ci := 2) (v := .int (nI 2)) (C := RX2) (T := TX2) (N := 10) hx hb hts hinX2 hown hK hP 0 rfl rfl 9 (by decide) hf25 (fun _ h9 => h9) rfl dX2_come_44 ?_
        refine lv_if_le (tgt := 52) hx hb dX2_come_47 (by decide) (fun hc47 => ?_) (fun hc47 => ?_)
        · exact absurd hc47 (by decide)
        · skip
          have k47 : 0 < 2 := k0_nle (by omega) hc47
          refine lv_iconst (v := nI 0) hx hb dX2_come_50 (by decide) ?_
          exact zE_i hF hr hlk hK hP hD hS dX2_come_51
  · exact absurd hc9 (by decide)
set_option maxHeartbeats 4000000 in
set_option maxRecDepth 100000 in
theorem m_come_0 (l : Launch) (G : va_G) (cI : ClassId) (oz loz liz siz shz saz : Nat) (nz camez : Nat) (cz gz : Int32) (louz Dz Sz shdz shsz : Fn) (thz : Int32) (hn : nz ≤ 63) (hc9 : camez ≤ 500) (hS1 : okS Sz) (hD1 : okD nz Dz) (xz : Int32) (hok : isO xz (nI 0) (nI 999) = true) (hn1 : nz < 63) (hc1 : camez < 500) : zC_i l yX2_come wsX2_come ({ frames := 3, cells := 0, slots := 0, locals := 68 }) G [(cI, .int)] (wm cI oz loz liz siz shz saz nz camez cz gz louz Dz Sz shdz shsz thz) (wm cI oz loz liz siz shz saz (nz + 1) (camez + 1) (wc ((riseF false 63 (newF (vM (upd louz camez xz) (upd Dz nz (nI camez)) (upd Sz nz 0) (nz + 1) cz gz) nz) nz).1)) (wg ((riseF false 63 (newF (vM (upd louz camez xz) (upd Dz nz (nI camez)) (upd Sz nz 0) (nz + 1) cz gz) nz) nz).1)) (upd louz camez xz) (wD ((riseF false 63 (newF (vM (upd louz camez xz) (upd Dz nz (nI camez)) (upd Sz nz 0) (nz + 1) cz gz) nz) nz).1)) (wS ((riseF false 63 (newF (vM (upd louz camez xz) (upd Dz nz (nI camez)) (upd Sz nz 0) (nz + 1) cz gz) nz) nz).1)) shdz shsz (nI 0)) [.ref oz, .int xz] (nI camez) := by
  refine zB_i (cc := cX2_come) (maxL := 4) (ret := (some .int)) (by decide) rfl (Nat.le_of_ble_eq_true rfl) ?_
  intro p e s m args below meth c0 A hF hr hlk hK hA hP hD hS ls hl
  have hx := hF.1
  have hb := hF.2.1
  have hown := hF.2.2.2.1
  have hts := hF.2.2.2.2
  have hf29 := hts (.fieldLink RX2 29 "SnoringDukesModel" "many" "I") (by decide +kernel)
  have hf49 := hts (.fieldLink RX2 49 "SnoringDukesModel" "came" "I") (by decide +kernel)
  have hf25 := hts (.fieldLink RX2 25 "SnoringDukesModel" "thrown" "I") (by decide +kernel)
  have hf16 := hts (.fieldLink RX2 16 "SnoringDukesModel" "side" "[I") (by decide +kernel)
  have hinX2 : ∀ wz ∈ wsX20, wz ∈ wsX2_come := by decide +kernel
  have hl : lv_has ls 4 [(0, .ref oz), (1, .int xz)] := hl
  refine lv_aload_n hx hb dX2_come_0 rfl (lv_at hl 0 rfl) ?_
  refine lv_iload_n hx hb dX2_come_1 rfl (lv_at hl 1 rfl) ?_
  refine lv_iconst (v := nI 0) hx hb dX2_come_2 (by decide) ?_
  refine lv_sipush (v := nI 999) hx hb dX2_come_3 (by decide) ?_
  refine zK_si (av := [.int xz, .int (nI 0), .int (nI 999)]) (rest := [.ref oz]) hF (m_isOf l G xz (nI 0) (nI 999)) (va_cwS 3 hts gX2_come_X2_isOf rfl rfl rfl (by decide +kernel) ⟨Nat.le_of_ble_eq_true rfl, Nat.le_of_ble_eq_true rfl⟩) hK hP hD hS hA (isC := []) (isR := [0, 1, 2, 3, 4, 5]) (perm := [0, 1, 2, 3, 4, 5]) (wr := wm cI oz loz liz siz shz saz nz camez cz gz louz Dz Sz shdz shsz thz) (wN := wm cI oz loz liz siz shz saz nz camez cz gz louz Dz Sz shdz shsz thz) ⟨rfl, by decide, rfl, by decide, (fun _ _ hz => by cases hz), rfl, by decide⟩ [] rfl rfl hl.1 rfl (Nat.le_of_ble_eq_true rfl) dX2_come_6 ⟨Nat.le_refl _, Nat.le_refl _⟩ (fun H locs hP hD hS => ?_)
  refine zN (nI 1) (y := (bI (isO xz (nI 0) (nI 999)))) (by rw [hok]; rfl) ?_
  refine lv_if_ne (tgt := 16) hx hb dX2_come_9 (by decide) (fun hc9 => ?_) (fun hc9 => ?_)
  · skip
    have k9 : 0 < 1 := k0_ne (by omega) hc9
    refine lv_aload_n hx hb dX2_come_16 rfl (lv_at hl 0 rfl) ?_
    refine va_get (D := G) (ci := 2) (v := .int (nI nz)) (C := RX2) (T := TX2) (N := 10) hx hb hts hinX2 hown hK hP 0 rfl rfl 0 (by decide) hf29 (fun _ h9 => h9) rfl dX2_come_17 ?_
    refine lv_bipush (v := nI 63) hx hb dX2_come_20 (by decide) ?_
    refine lv_icmp_eq (tgt := 35) hx hb dX2_come_22 (by decide) (fun hc22 => ?_) (fun hc22 => ?_)
    · skip
      have k22 : nz = 63 := k_eq (by omega) (by omega) hc22
      exact absurd k22 (by omega)
    · skip
      have k22 : nz ≠ 63 := k_ne (by omega) (by omega) hc22
      refine lv_aload_n hx hb dX2_come_25 rfl (lv_at hl 0 rfl) ?_
      refine va_get (D := G) (ci := 2) (v := .int (nI camez)) (C := RX2) (T := TX2) (N := 10) hx hb hts hinX2 hown hK hP 0 rfl rfl 1 (by decide) hf49 (fun _ h9 => h9) rfl dX2_come_26 ?_
      refine lv_sipush (v := nI 500) hx hb dX2_come_29 (by decide) ?_
      refine lv_icmp_ne (tgt := 39) hx hb dX2_come_32 (by decide) (fun hc32 => ?_) (fun hc32 => ?_)
      · skip
        have k32 : camez ≠ 500 := k_ne (by omega) (by omega) hc32
        refine lv_iconst (v := nI 0) hx hb dX2_come_39 (by decide) ?_
        refine va_put (D := G) (ci := 2) (v := .int (nI 0)) (ty := .int) (C := RX2) (T := TX2) (N := 10) hx hb hts hinX2 tyX2 tyX2_ok nmX2 hown hK hP hD hS 0 rfl rfl 9 (by decide) hf25 (fun _ h9 => h9) rfl (by decide +kernel) rfl rfl (Nat.le_of_ble_eq_true rfl) dX2_come_40 (fun H locs hP hD hS => ?_)
        have hP : va_P G vwCl (wm cI oz loz liz siz shz saz nz camez cz gz louz Dz Sz shdz shsz (nI 0)) H := hP
        have hD : va_D A (wm cI oz loz liz siz shz saz nz camez cz gz louz Dz Sz shdz shsz (nI 0)) := hD
        refine lv_aload_n hx hb dX2_come_43 rfl (lv_at hl 0 rfl) ?_
        refine va_get (D := G) (ci := 2) (v := .int (nI 0)) (C := RX2) (T := TX2) (N := 10) hx hb hts hinX2 hown hK hP 0 rfl rfl 9 (by decide) hf25 (fun _ h9 => h9) rfl dX2_come_44 ?_
        refine lv_if_le (tgt := 52) hx hb dX2_come_47 (by decide) (fun hc47 => ?_) (fun hc47 => ?_)
        · skip
          have k47 : 0 = 0 := k0_le (by omega) hc47
          refine lv_aload_n hx hb dX2_come_52 rfl (lv_at hl 0 rfl) ?_
          refine lv_iload_n hx hb dX2_come_53 rfl (lv_at hl 1 rfl) ?_
          refine zK_vv (As := [.int xz]) (rest := []) hF (m_lays l G cI oz loz liz siz shz saz nz camez cz gz louz Dz Sz shdz shsz (nI 0) (by omega) (by omega) hS1 hD1 (by omega) (by omega) xz) (cwV 1 hts gX2_come_X2_lays rfl rfl rfl (by decide +kernel) ⟨Nat.le_of_ble_eq_true rfl, Nat.le_of_ble_eq_true rfl⟩) hK hP hD hS hA (ci := 2) (q0 := 0) rfl rfl rfl (isC := [0, 1, 2, 3, 4, 5]) (isR := []) (perm := [0, 1, 2, 3, 4, 5]) (wr := []) (wN := wm cI oz loz liz siz shz saz (nz + 1) (camez + 1) cz gz (upd louz camez xz) (upd Dz nz (nI camez)) (upd Sz nz 0) shdz shsz (nI 0)) ⟨rfl, by decide, rfl, rfl, (fun _ hz => by cases hz), rfl, by decide⟩ [0] rfl rfl hl.1 rfl (Nat.le_of_ble_eq_true rfl) dX2_come_54 ⟨Nat.le_refl _, Nat.le_refl _⟩ (fun H locs hP hD hS => ?_)
          have hD9 : okD (nz + 1) (upd Dz nz (nI camez)) := okD_lay hD1 (by omega)
          refine lv_aload_n hx hb dX2_come_57 rfl (lv_at hl 0 rfl) ?_
          refine va_get (D := G) (ci := 2) (v := .int (nI (nz + 1))) (C := RX2) (T := TX2) (N := 10) hx hb hts hinX2 hown hK hP 0 rfl rfl 0 (by decide) hf29 (fun _ h9 => h9) rfl dX2_come_58 ?_
          refine lv_iconst (v := nI 1) hx hb dX2_come_61 (by decide) ?_
          refine lv_isub hx hb dX2_come_62 ?_
          refine zN (nI nz) (y := ((nI (nz + 1)) - (nI 1))) (pk_sub (by omega)) ?_
          refine lv_istore_n (lv' := [(2, .int (nI nz)), (0, .ref oz), (1, .int xz)]) hx hb dX2_come_63 rfl hl (by decide) rfl (fun ls hl => ?_)
          refine lv_iload_n hx hb dX2_come_64 rfl (lv_at hl 0 rfl) ?_
          refine lv_iconst (v := nI 2) hx hb dX2_come_65 (by decide) ?_
          refine lv_irem hx hb dX2_come_66 (by decide) ?_
          refine zN (nI (nz % 2)) (y := ((nI nz) - (nI nz) / (nI 2) * (nI 2))) (pk_rem (by omega) (by decide) (by decide)) ?_
          refine lv_if_ne (tgt := 79) hx hb dX2_come_67 (by decide) (fun hc67 => ?_) (fun hc67 => ?_)
          · skip
            have k67 : 0 < (nz % 2) := k0_ne (by omega) hc67
            have e9 : newF (vM (upd louz camez xz) (upd Dz nz (nI camez)) (upd Sz nz 0) (nz + 1) cz gz) nz = vM (upd louz camez xz) (upd Dz nz (nI camez)) (upd Sz nz 0) (nz + 1) cz gz := by unfold newF; rw [if_neg (by omega)] <;> rfl
            refine lv_aload_n hx hb dX2_come_79 rfl (lv_at hl 1 rfl) ?_
            refine lv_iload_n hx hb dX2_come_80 rfl (lv_at hl 0 rfl) ?_
            refine lv_iconst (v := nI 0) hx hb dX2_come_81 (by decide) ?_
            refine zK_vi (As := [.int (nI nz), .int (nI 0)]) (rest := []) hF (m_rises l G cI oz loz liz siz shz saz (nz + 1) (camez + 1) cz gz (upd louz camez xz) (upd Dz nz (nI camez)) (upd Sz nz 0) shdz shsz (nI 0) (by omega) (by omega) (okS_upd0 hS1 nz) hD9 nz (by omega) false) (cwV 2 hts gX2_come_X2_rises rfl rfl rfl (by decide +kernel) ⟨Nat.le_of_ble_eq_true rfl, Nat.le_of_ble_eq_true rfl⟩) hK hP hD hS hA (ci := 2) (q0 := 0) rfl rfl rfl (isC := [0, 1, 2, 3, 4, 5]) (isR := []) (perm := [0, 1, 2, 3, 4, 5]) (wr := []) (wN := wm cI oz loz liz siz shz saz (nz + 1) (camez + 1) (wc ((riseF false 63 (vM (upd louz camez xz) (upd Dz nz (nI camez)) (upd Sz nz 0) (nz + 1) cz gz) nz).1)) (wg ((riseF false 63 (vM (upd louz camez xz) (upd Dz nz (nI camez)) (upd Sz nz 0) (nz + 1) cz gz) nz).1)) (upd louz camez xz) (wD ((riseF false 63 (vM (upd louz camez xz) (upd Dz nz (nI camez)) (upd Sz nz 0) (nz + 1) cz gz) nz).1)) (wS ((riseF false 63 (vM (upd louz camez xz) (upd Dz nz (nI camez)) (upd Sz nz 0) (nz + 1) cz gz) nz).1)) shdz shsz (nI 0)) ⟨rfl, by decide, rfl, rfl, (fun _ hz => by cases hz), rfl, by decide⟩ [0] rfl rfl hl.1 rfl (Nat.le_of_ble_eq_true rfl) dX2_come_82 ⟨Nat.le_refl _, Nat.le_refl _⟩ (fun H locs hP hD hS => ?_)
            obtain ⟨D4, S4, c4, g4, hu4, hz4, hy4⟩ := riseM_ex false (lou := upd louz camez xz) 63 (c := cz) (g := gz) (b := nz) (okS_upd0 hS1 nz) hD9 (by omega)
            have hP : va_P G vwCl (wm cI oz loz liz siz shz saz (nz + 1) (camez + 1) c4 g4 (upd louz camez xz) D4 S4 shdz shsz (nI 0)) H := by have qz := hP; rw [hu4] at qz; exact qz
            have hD : va_D A (wm cI oz loz liz siz shz saz (nz + 1) (camez + 1) c4 g4 (upd louz camez xz) D4 S4 shdz shsz (nI 0)) := by have qz := hD; rw [hu4] at qz; exact qz
            refine lv_istore_n (lv' := [(3, .int (nI (riseF false 63 (vM (upd louz camez xz) (upd Dz nz (nI camez)) (upd Sz nz 0) (nz + 1) cz gz) nz).2)), (2, .int (nI nz)), (0, .ref oz), (1, .int xz)]) hx hb dX2_come_85 rfl hl (by decide) rfl (fun ls hl => ?_)
            refine lv_aload_n hx hb dX2_come_86 rfl (lv_at hl 2 rfl) ?_
            refine va_get (D := G) (ci := 2) (v := .int (nI (camez + 1))) (C := RX2) (T := TX2) (N := 10) hx hb hts hinX2 hown hK hP 0 rfl rfl 1 (by decide) hf49 (fun _ h9 => h9) rfl dX2_come_87 ?_
            refine lv_iconst (v := nI 1) hx hb dX2_come_90 (by decide) ?_
            refine lv_isub hx hb dX2_come_91 ?_
            refine zN (nI camez) (y := ((nI (camez + 1)) - (nI 1))) (pk_sub (by omega)) ?_
            rw [e9, hu4]
            exact zE_i hF hr hlk hK hP hD hS dX2_come_92
          · skip
            have k67 : (nz % 2) = 0 := k0_eq (by omega) hc67
            refine lv_aload_n hx hb dX2_come_70 rfl (lv_at hl 1 rfl) ?_
            refine va_get (D := G) (ci := 2) (v := .ref siz) (C := RX2) (T := TX2) (N := 10) hx hb hts hinX2 hown hK hP 0 rfl rfl 6 (by decide) hf16 (fun _ h9 => h9) rfl dX2_come_71 ?_
            refine lv_iload_n hx hb dX2_come_74 rfl (lv_at hl 0 rfl) ?_
            refine lv_iconst (v := nI 2) hx hb dX2_come_75 (by decide) ?_
            refine lv_idiv hx hb dX2_come_76 (by decide) ?_
            refine zN (nI (nz / 2)) (y := ((nI nz) / (nI 2))) (pk_div (by omega) (by decide) (by decide)) ?_
            refine lv_iconst (v := nI 0) hx hb dX2_come_77 (by decide) ?_
            refine zA_st (x := nI 0) hx hb hK hP hD hS 3 0 rfl rfl (by omega) (by decide) dX2_come_78 (fun H locs hP hD hS => ?_)
            have hP : va_P G vwCl (wm cI oz loz liz siz shz saz (nz + 1) (camez + 1) cz gz (upd louz camez xz) (upd Dz nz (nI camez)) (upd (upd Sz nz 0) (nz / 2) (nI 0)) shdz shsz (nI 0)) H := hP
            have hD : va_D A (wm cI oz loz liz siz shz saz (nz + 1) (camez + 1) cz gz (upd louz camez xz) (upd Dz nz (nI camez)) (upd (upd Sz nz 0) (nz / 2) (nI 0)) shdz shsz (nI 0)) := hD
            have e9 : newF (vM (upd louz camez xz) (upd Dz nz (nI camez)) (upd Sz nz 0) (nz + 1) cz gz) nz = vM (upd louz camez xz) (upd Dz nz (nI camez)) (upd (upd Sz nz 0) (nz / 2) (nI 0)) (nz + 1) cz gz := by unfold newF; rw [if_pos (by omega)] <;> rfl
            have hS9 : okS (upd (upd Sz nz 0) (nz / 2) (nI 0)) := okS_upd0 (okS_upd0 hS1 nz) (nz / 2)
            refine lv_aload_n hx hb dX2_come_79 rfl (lv_at hl 1 rfl) ?_
            refine lv_iload_n hx hb dX2_come_80 rfl (lv_at hl 0 rfl) ?_
            refine lv_iconst (v := nI 0) hx hb dX2_come_81 (by decide) ?_
            refine zK_vi (As := [.int (nI nz), .int (nI 0)]) (rest := []) hF (m_rises l G cI oz loz liz siz shz saz (nz + 1) (camez + 1) cz gz (upd louz camez xz) (upd Dz nz (nI camez)) (upd (upd Sz nz 0) (nz / 2) (nI 0)) shdz shsz (nI 0) (by omega) (by omega) hS9 hD9 nz (by omega) false) (cwV 2 hts gX2_come_X2_rises rfl rfl rfl (by decide +kernel) ⟨Nat.le_of_ble_eq_true rfl, Nat.le_of_ble_eq_true rfl⟩) hK hP hD hS hA (ci := 2) (q0 := 0) rfl rfl rfl (isC := [0, 1, 2, 3, 4, 5]) (isR := []) (perm := [0, 1, 2, 3, 4, 5]) (wr := []) (wN := wm cI oz loz liz siz shz saz (nz + 1) (camez + 1) (wc ((riseF false 63 (vM (upd louz camez xz) (upd Dz nz (nI camez)) (upd (upd Sz nz 0) (nz / 2) (nI 0)) (nz + 1) cz gz) nz).1)) (wg ((riseF false 63 (vM (upd louz camez xz) (upd Dz nz (nI camez)) (upd (upd Sz nz 0) (nz / 2) (nI 0)) (nz + 1) cz gz) nz).1)) (upd louz camez xz) (wD ((riseF false 63 (vM (upd louz camez xz) (upd Dz nz (nI camez)) (upd (upd Sz nz 0) (nz / 2) (nI 0)) (nz + 1) cz gz) nz).1)) (wS ((riseF false 63 (vM (upd louz camez xz) (upd Dz nz (nI camez)) (upd (upd Sz nz 0) (nz / 2) (nI 0)) (nz + 1) cz gz) nz).1)) shdz shsz (nI 0)) ⟨rfl, by decide, rfl, rfl, (fun _ hz => by cases hz), rfl, by decide⟩ [0] rfl rfl hl.1 rfl (Nat.le_of_ble_eq_true rfl) dX2_come_82 ⟨Nat.le_refl _, Nat.le_refl _⟩ (fun H locs hP hD hS => ?_)
            obtain ⟨D5, S5, c5, g5, hu5, hz5, hy5⟩ := riseM_ex false (lou := upd louz camez xz) 63 (c := cz) (g := gz) (b := nz) hS9 hD9 (by omega)
            have hP : va_P G vwCl (wm cI oz loz liz siz shz saz (nz + 1) (camez + 1) c5 g5 (upd louz camez xz) D5 S5 shdz shsz (nI 0)) H := by have qz := hP; rw [hu5] at qz; exact qz
            have hD : va_D A (wm cI oz loz liz siz shz saz (nz + 1) (camez + 1) c5 g5 (upd louz camez xz) D5 S5 shdz shsz (nI 0)) := by have qz := hD; rw [hu5] at qz; exact qz
            refine lv_istore_n (lv' := [(3, .int (nI (riseF false 63 (vM (upd louz camez xz) (upd Dz nz (nI camez)) (upd (upd Sz nz 0) (nz / 2) (nI 0)) (nz + 1) cz gz) nz).2)), (2, .int (nI nz)), (0, .ref oz), (1, .int xz)]) hx hb dX2_come_85 rfl hl (by decide) rfl (fun ls hl => ?_)
            refine lv_aload_n hx hb dX2_come_86 rfl (lv_at hl 2 rfl) ?_
            refine va_get (D := G) (ci := 2) (v := .int (nI (camez + 1))) (C := RX2) (T := TX2) (N := 10) hx hb hts hinX2 hown hK hP 0 rfl rfl 1 (by decide) hf49 (fun _ h9 => h9) rfl dX2_come_87 ?_
            refine lv_iconst (v := nI 1) hx hb dX2_come_90 (by decide) ?_
            refine lv_isub hx hb dX2_come_91 ?_
            refine zN (nI camez) (y := ((nI (camez + 1)) - (nI 1))) (pk_sub (by omega)) ?_
            rw [e9, hu5]
            exact zE_i hF hr hlk hK hP hD hS dX2_come_92
        · exact absurd hc47 (by decide)
      · skip
        have k32 : camez = 500 := k_eq (by omega) (by omega) hc32
        exact absurd k32 (by omega)
  · exact absurd hc9 (by decide)
set_option maxHeartbeats 4000000 in
set_option maxRecDepth 100000 in
theorem m_leave_1 (l : Launch) (G : va_G) (cI : ClassId) (oz loz liz siz shz saz : Nat) (nz camez : Nat) (cz gz : Int32) (louz Dz Sz shdz shsz : Fn) (thz : Int32) (hn : nz ≤ 63) (hc9 : camez ≤ 500) (hS1 : okS Sz) (hD1 : okD nz Dz) (h0 : nz = 0) : zC_i l yX2_leave wsX2_leave ({ frames := 2, cells := 0, slots := 0, locals := 48 }) G [(cI, .int)] (wm cI oz loz liz siz shz saz nz camez cz gz louz Dz Sz shdz shsz thz) (wm cI oz loz liz siz shz saz nz camez cz gz louz Dz Sz shdz shsz (nI 1)) [.ref oz] (nI 0) := by
  refine zB_i (cc := cX2_leave) (maxL := 1) (ret := (some .int)) (by decide) rfl (Nat.le_of_ble_eq_true rfl) ?_
  intro p e s m args below meth c0 A hF hr hlk hK hA hP hD hS ls hl
  have hx := hF.1
  have hb := hF.2.1
  have hown := hF.2.2.2.1
  have hts := hF.2.2.2.2
  have hf29 := hts (.fieldLink RX2 29 "SnoringDukesModel" "many" "I") (by decide +kernel)
  have hf25 := hts (.fieldLink RX2 25 "SnoringDukesModel" "thrown" "I") (by decide +kernel)
  have hinX2 : ∀ wz ∈ wsX20, wz ∈ wsX2_leave := by decide +kernel
  have hl : lv_has ls 1 [(0, .ref oz)] := hl
  refine lv_aload_n hx hb dX2_leave_0 rfl (lv_at hl 0 rfl) ?_
  refine lv_aload_n hx hb dX2_leave_1 rfl (lv_at hl 0 rfl) ?_
  refine va_get (D := G) (ci := 2) (v := .int (nI nz)) (C := RX2) (T := TX2) (N := 10) hx hb hts hinX2 hown hK hP 0 rfl rfl 0 (by decide) hf29 (fun _ h9 => h9) rfl dX2_leave_2 ?_
  refine lv_if_le (tgt := 12) hx hb dX2_leave_5 (by decide) (fun hc5 => ?_) (fun hc5 => ?_)
  · skip
    have k5 : nz = 0 := k0_le (by omega) hc5
    refine lv_iconst (v := nI 1) hx hb dX2_leave_12 (by decide) ?_
    refine va_put (D := G) (ci := 2) (v := .int (nI 1)) (ty := .int) (C := RX2) (T := TX2) (N := 10) hx hb hts hinX2 tyX2 tyX2_ok nmX2 hown hK hP hD hS 0 rfl rfl 9 (by decide) hf25 (fun _ h9 => h9) rfl (by decide +kernel) rfl rfl (Nat.le_of_ble_eq_true rfl) dX2_leave_13 (fun H locs hP hD hS => ?_)
    have hP : va_P G vwCl (wm cI oz loz liz siz shz saz nz camez cz gz louz Dz Sz shdz shsz (nI 1)) H := hP
    have hD : va_D A (wm cI oz loz liz siz shz saz nz camez cz gz louz Dz Sz shdz shsz (nI 1)) := hD
    refine lv_aload_n hx hb dX2_leave_16 rfl (lv_at hl 0 rfl) ?_
    refine va_get (D := G) (ci := 2) (v := .int (nI 1)) (C := RX2) (T := TX2) (N := 10) hx hb hts hinX2 hown hK hP 0 rfl rfl 9 (by decide) hf25 (fun _ h9 => h9) rfl dX2_leave_17 ?_
    refine lv_if_ne (tgt := 30) hx hb dX2_leave_20 (by decide) (fun hc20 => ?_) (fun hc20 => ?_)
    · skip
      have k20 : 0 < 1 := k0_ne (by omega) hc20
      refine lv_iconst (v := nI 0) hx hb dX2_leave_30 (by decide) ?_
      exact zE_i hF hr hlk hK hP hD hS dX2_leave_31
    · exact absurd hc20 (by decide)
  · skip
    have k5 : 0 < nz := k0_nle (by omega) hc5
    exact absurd k5 (by omega)
set_option maxHeartbeats 4000000 in
set_option maxRecDepth 100000 in
theorem m_leave_0 (l : Launch) (G : va_G) (cI : ClassId) (oz loz liz siz shz saz : Nat) (nz camez : Nat) (cz gz : Int32) (louz Dz Sz shdz shsz : Fn) (thz : Int32) (hn : nz ≤ 63) (hc9 : camez ≤ 500) (hS1 : okS Sz) (hD1 : okD nz Dz) (hn1 : 1 ≤ nz) : zC_i l yX2_leave wsX2_leave ({ frames := 2, cells := 0, slots := 0, locals := 48 }) G [(cI, .int)] (wm cI oz loz liz siz shz saz nz camez cz gz louz Dz Sz shdz shsz thz) (wm cI oz loz liz siz shz saz (nz - 1) camez (wc (rmF (vM louz Dz Sz nz cz gz))) (wg (rmF (vM louz Dz Sz nz cz gz))) louz (wD (rmF (vM louz Dz Sz nz cz gz))) (wS (rmF (vM louz Dz Sz nz cz gz))) shdz shsz (nI 0)) [.ref oz] (Dz 0) := by
  refine zB_i (cc := cX2_leave) (maxL := 1) (ret := (some .int)) (by decide) rfl (Nat.le_of_ble_eq_true rfl) ?_
  intro p e s m args below meth c0 A hF hr hlk hK hA hP hD hS ls hl
  have hx := hF.1
  have hb := hF.2.1
  have hown := hF.2.2.2.1
  have hts := hF.2.2.2.2
  have hf29 := hts (.fieldLink RX2 29 "SnoringDukesModel" "many" "I") (by decide +kernel)
  have hf25 := hts (.fieldLink RX2 25 "SnoringDukesModel" "thrown" "I") (by decide +kernel)
  have hinX2 : ∀ wz ∈ wsX20, wz ∈ wsX2_leave := by decide +kernel
  have hl : lv_has ls 1 [(0, .ref oz)] := hl
  refine lv_aload_n hx hb dX2_leave_0 rfl (lv_at hl 0 rfl) ?_
  refine lv_aload_n hx hb dX2_leave_1 rfl (lv_at hl 0 rfl) ?_
  refine va_get (D := G) (ci := 2) (v := .int (nI nz)) (C := RX2) (T := TX2) (N := 10) hx hb hts hinX2 hown hK hP 0 rfl rfl 0 (by decide) hf29 (fun _ h9 => h9) rfl dX2_leave_2 ?_
  refine lv_if_le (tgt := 12) hx hb dX2_leave_5 (by decide) (fun hc5 => ?_) (fun hc5 => ?_)
  · skip
    have k5 : nz = 0 := k0_le (by omega) hc5
    exact absurd k5 (by omega)
  · skip
    have k5 : 0 < nz := k0_nle (by omega) hc5
    refine lv_iconst (v := nI 0) hx hb dX2_leave_8 (by decide) ?_
    refine lv_goto (tgt := 13) hx hb dX2_leave_9 (by decide) ?_
    refine va_put (D := G) (ci := 2) (v := .int (nI 0)) (ty := .int) (C := RX2) (T := TX2) (N := 10) hx hb hts hinX2 tyX2 tyX2_ok nmX2 hown hK hP hD hS 0 rfl rfl 9 (by decide) hf25 (fun _ h9 => h9) rfl (by decide +kernel) rfl rfl (Nat.le_of_ble_eq_true rfl) dX2_leave_13 (fun H locs hP hD hS => ?_)
    have hP : va_P G vwCl (wm cI oz loz liz siz shz saz nz camez cz gz louz Dz Sz shdz shsz (nI 0)) H := hP
    have hD : va_D A (wm cI oz loz liz siz shz saz nz camez cz gz louz Dz Sz shdz shsz (nI 0)) := hD
    refine lv_aload_n hx hb dX2_leave_16 rfl (lv_at hl 0 rfl) ?_
    refine va_get (D := G) (ci := 2) (v := .int (nI 0)) (C := RX2) (T := TX2) (N := 10) hx hb hts hinX2 hown hK hP 0 rfl rfl 9 (by decide) hf25 (fun _ h9 => h9) rfl dX2_leave_17 ?_
    refine lv_if_ne (tgt := 30) hx hb dX2_leave_20 (by decide) (fun hc20 => ?_) (fun hc20 => ?_)
    · exact absurd hc20 (by decide)
    · skip
      have k20 : 0 = 0 := k0_eq (by omega) hc20
      refine lv_aload_n hx hb dX2_leave_23 rfl (lv_at hl 0 rfl) ?_
      refine zK_vi (As := []) (rest := []) hF (m_leaves l G cI oz loz liz siz shz saz nz camez cz gz louz Dz Sz shdz shsz (nI 0) (by omega) (by omega) hS1 hD1 (by omega)) (cwV 0 hts gX2_leave_X2_leaves rfl rfl rfl (by decide +kernel) ⟨Nat.le_of_ble_eq_true rfl, Nat.le_of_ble_eq_true rfl⟩) hK hP hD hS hA (ci := 2) (q0 := 0) rfl rfl rfl (isC := [0, 1, 2, 3, 4, 5]) (isR := []) (perm := [0, 1, 2, 3, 4, 5]) (wr := []) (wN := wm cI oz loz liz siz shz saz (nz - 1) camez (wc (rmF (vM louz Dz Sz nz cz gz))) (wg (rmF (vM louz Dz Sz nz cz gz))) louz (wD (rmF (vM louz Dz Sz nz cz gz))) (wS (rmF (vM louz Dz Sz nz cz gz))) shdz shsz (nI 0)) ⟨rfl, by decide, rfl, rfl, (fun _ hz => by cases hz), rfl, by decide⟩ [0] rfl rfl hl.1 rfl (Nat.le_of_ble_eq_true rfl) dX2_leave_24 ⟨Nat.le_refl _, Nat.le_refl _⟩ (fun H locs hP hD hS => ?_)
      obtain ⟨D6, S6, c6, g6, hu6, hz6, hy6⟩ := rmM_ex (lou := louz) (c := cz) (g := gz) hS1 hD1 (by omega) (by omega) (m := nz - 1) (by omega)
      have hP : va_P G vwCl (wm cI oz loz liz siz shz saz (nz - 1) camez c6 g6 louz D6 S6 shdz shsz (nI 0)) H := by have qz := hP; rw [hu6] at qz; exact qz
      have hD : va_D A (wm cI oz loz liz siz shz saz (nz - 1) camez c6 g6 louz D6 S6 shdz shsz (nI 0)) := by have qz := hD; rw [hu6] at qz; exact qz
      refine lv_goto (tgt := 31) hx hb dX2_leave_27 (by decide) ?_
      rw [hu6]
      exact zE_i hF hr hlk hK hP hD hS dX2_leave_31
set_option maxHeartbeats 4000000 in
set_option maxRecDepth 100000 in
theorem m_hush_1 (l : Launch) (G : va_G) (cI : ClassId) (oz loz liz siz shz saz : Nat) (nz camez : Nat) (cz gz : Int32) (louz Dz Sz shdz shsz : Fn) (thz : Int32) (hn : nz ≤ 63) (hc9 : camez ≤ 500) (hS1 : okS Sz) (hD1 : okD nz Dz) (xz yz : Int32) (hno : ¬ fnd Dz xz nz < nz) : zC_i l yX2_hush wsX2_hush ({ frames := 3, cells := 0, slots := 0, locals := 68 }) G [(cI, .int)] (wm cI oz loz liz siz shz saz nz camez cz gz louz Dz Sz shdz shsz thz) (wm cI oz loz liz siz shz saz nz camez cz gz louz Dz Sz shdz shsz (nI 1)) [.ref oz, .int xz, .int yz] (nI 0) := by
  refine zB_i (cc := cX2_hush) (maxL := 4) (ret := (some .int)) (by decide) rfl (Nat.le_of_ble_eq_true rfl) ?_
  intro p e s m args below meth c0 A hF hr hlk hK hA hP hD hS ls hl
  have hx := hF.1
  have hb := hF.2.1
  have hown := hF.2.2.2.1
  have hts := hF.2.2.2.2
  have hf7 := hts (.fieldLink RX2 7 "SnoringDukesModel" "loud" "[I") (by decide +kernel)
  have hf25 := hts (.fieldLink RX2 25 "SnoringDukesModel" "thrown" "I") (by decide +kernel)
  have hinX2 : ∀ wz ∈ wsX20, wz ∈ wsX2_hush := by decide +kernel
  have hl : lv_has ls 4 [(0, .ref oz), (1, .int xz), (2, .int yz)] := hl
  refine lv_aload_n hx hb dX2_hush_0 rfl (lv_at hl 0 rfl) ?_
  refine lv_iload_n hx hb dX2_hush_1 rfl (lv_at hl 1 rfl) ?_
  refine zK_vi (As := [.int xz]) (rest := []) hF (m_find l G cI oz loz liz siz shz saz nz camez cz gz louz Dz Sz shdz shsz thz hn hc9 hS1 hD1 xz) (cwV 1 hts gX2_hush_X2_find rfl rfl rfl (by decide +kernel) ⟨Nat.le_of_ble_eq_true rfl, Nat.le_of_ble_eq_true rfl⟩) hK hP hD hS hA (ci := 2) (q0 := 0) rfl rfl rfl (isC := [0, 1, 2, 3, 4, 5]) (isR := []) (perm := [0, 1, 2, 3, 4, 5]) (wr := []) (wN := wm cI oz loz liz siz shz saz nz camez cz gz louz Dz Sz shdz shsz thz) ⟨rfl, by decide, rfl, rfl, (fun _ hz => by cases hz), rfl, by decide⟩ [0] rfl rfl hl.1 rfl (Nat.le_of_ble_eq_true rfl) dX2_hush_2 ⟨Nat.le_refl _, Nat.le_refl _⟩ (fun H locs hP hD hS => ?_)
  refine zN (-1) (y := (fndI Dz nz xz)) (fndI_no hno) ?_
  refine lv_istore_n (lv' := [(3, .int (-1)), (0, .ref oz), (1, .int xz), (2, .int yz)]) hx hb dX2_hush_5 rfl hl (by decide) rfl (fun ls hl => ?_)
  refine lv_aload_n hx hb dX2_hush_6 rfl (lv_at hl 1 rfl) ?_
  refine lv_iload_n hx hb dX2_hush_7 rfl (lv_at hl 0 rfl) ?_
  refine lv_if_ge (tgt := 15) hx hb dX2_hush_8 (by decide) (fun hc8 => ?_) (fun hc8 => ?_)
  · exact absurd hc8 (by decide)
  · skip
    refine lv_iconst (v := nI 1) hx hb dX2_hush_11 (by decide) ?_
    refine lv_goto (tgt := 34) hx hb dX2_hush_12 (by decide) ?_
    refine va_put (D := G) (ci := 2) (v := .int (nI 1)) (ty := .int) (C := RX2) (T := TX2) (N := 10) hx hb hts hinX2 tyX2 tyX2_ok nmX2 hown hK hP hD hS 0 rfl rfl 9 (by decide) hf25 (fun _ h9 => h9) rfl (by decide +kernel) rfl rfl (Nat.le_of_ble_eq_true rfl) dX2_hush_34 (fun H locs hP hD hS => ?_)
    have hP : va_P G vwCl (wm cI oz loz liz siz shz saz nz camez cz gz louz Dz Sz shdz shsz (nI 1)) H := hP
    have hD : va_D A (wm cI oz loz liz siz shz saz nz camez cz gz louz Dz Sz shdz shsz (nI 1)) := hD
    refine lv_aload_n hx hb dX2_hush_37 rfl (lv_at hl 1 rfl) ?_
    refine va_get (D := G) (ci := 2) (v := .int (nI 1)) (C := RX2) (T := TX2) (N := 10) hx hb hts hinX2 hown hK hP 0 rfl rfl 9 (by decide) hf25 (fun _ h9 => h9) rfl dX2_hush_38 ?_
    refine lv_if_le (tgt := 46) hx hb dX2_hush_41 (by decide) (fun hc41 => ?_) (fun hc41 => ?_)
    · exact absurd hc41 (by decide)
    · skip
      have k41 : 0 < 1 := k0_nle (by omega) hc41
      refine lv_iconst (v := nI 0) hx hb dX2_hush_44 (by decide) ?_
      exact zE_i hF hr hlk hK hP hD hS dX2_hush_45
set_option maxHeartbeats 4000000 in
set_option maxRecDepth 100000 in
theorem m_hush_2 (l : Launch) (G : va_G) (cI : ClassId) (oz loz liz siz shz saz : Nat) (nz camez : Nat) (cz gz : Int32) (louz Dz Sz shdz shsz : Fn) (thz : Int32) (hn : nz ≤ 63) (hc9 : camez ≤ 500) (hS1 : okS Sz) (hD1 : okD nz Dz) (bz kb : Nat) (hb9 : bz < nz) (hkb : kb < 500) (hf : fnd Dz (nI kb) nz = bz) (yz : Int32) (hbad : isO yz (nI 0) (louz kb) = false) : zC_i l yX2_hush wsX2_hush ({ frames := 3, cells := 0, slots := 0, locals := 68 }) G [(cI, .int)] (wm cI oz loz liz siz shz saz nz camez cz gz louz Dz Sz shdz shsz thz) (wm cI oz loz liz siz shz saz nz camez cz gz louz Dz Sz shdz shsz (nI 2)) [.ref oz, .int (nI kb), .int yz] (nI 0) := by
  refine zB_i (cc := cX2_hush) (maxL := 4) (ret := (some .int)) (by decide) rfl (Nat.le_of_ble_eq_true rfl) ?_
  intro p e s m args below meth c0 A hF hr hlk hK hA hP hD hS ls hl
  have hx := hF.1
  have hb := hF.2.1
  have hown := hF.2.2.2.1
  have hts := hF.2.2.2.2
  have hf7 := hts (.fieldLink RX2 7 "SnoringDukesModel" "loud" "[I") (by decide +kernel)
  have hf25 := hts (.fieldLink RX2 25 "SnoringDukesModel" "thrown" "I") (by decide +kernel)
  have hinX2 : ∀ wz ∈ wsX20, wz ∈ wsX2_hush := by decide +kernel
  have hl : lv_has ls 4 [(0, .ref oz), (1, .int (nI kb)), (2, .int yz)] := hl
  refine lv_aload_n hx hb dX2_hush_0 rfl (lv_at hl 0 rfl) ?_
  refine lv_iload_n hx hb dX2_hush_1 rfl (lv_at hl 1 rfl) ?_
  refine zK_vi (As := [.int (nI kb)]) (rest := []) hF (m_find l G cI oz loz liz siz shz saz nz camez cz gz louz Dz Sz shdz shsz thz hn hc9 hS1 hD1 (nI kb)) (cwV 1 hts gX2_hush_X2_find rfl rfl rfl (by decide +kernel) ⟨Nat.le_of_ble_eq_true rfl, Nat.le_of_ble_eq_true rfl⟩) hK hP hD hS hA (ci := 2) (q0 := 0) rfl rfl rfl (isC := [0, 1, 2, 3, 4, 5]) (isR := []) (perm := [0, 1, 2, 3, 4, 5]) (wr := []) (wN := wm cI oz loz liz siz shz saz nz camez cz gz louz Dz Sz shdz shsz thz) ⟨rfl, by decide, rfl, rfl, (fun _ hz => by cases hz), rfl, by decide⟩ [0] rfl rfl hl.1 rfl (Nat.le_of_ble_eq_true rfl) dX2_hush_2 ⟨Nat.le_refl _, Nat.le_refl _⟩ (fun H locs hP hD hS => ?_)
  refine zN (nI bz) (y := (fndI Dz nz (nI kb))) (fndI_at hf hb9) ?_
  refine lv_istore_n (lv' := [(3, .int (nI bz)), (0, .ref oz), (1, .int (nI kb)), (2, .int yz)]) hx hb dX2_hush_5 rfl hl (by decide) rfl (fun ls hl => ?_)
  refine lv_aload_n hx hb dX2_hush_6 rfl (lv_at hl 1 rfl) ?_
  refine lv_iload_n hx hb dX2_hush_7 rfl (lv_at hl 0 rfl) ?_
  refine lv_if_ge (tgt := 15) hx hb dX2_hush_8 (by decide) (fun hc8 => ?_) (fun hc8 => ?_)
  · skip
    refine lv_iload_n hx hb dX2_hush_15 rfl (lv_at hl 3 rfl) ?_
    refine lv_iconst (v := nI 0) hx hb dX2_hush_16 (by decide) ?_
    refine lv_aload_n hx hb dX2_hush_17 rfl (lv_at hl 1 rfl) ?_
    refine va_get (D := G) (ci := 2) (v := .ref loz) (C := RX2) (T := TX2) (N := 10) hx hb hts hinX2 hown hK hP 0 rfl rfl 4 (by decide) hf7 (fun _ h9 => h9) rfl dX2_hush_18 ?_
    refine lv_iload_n hx hb dX2_hush_21 rfl (lv_at hl 2 rfl) ?_
    refine zA_ld hx hb hK hP 1 0 rfl rfl (by omega) (by decide) dX2_hush_22 ?_
    refine zK_si (av := [.int yz, .int (nI 0), .int (louz kb)]) (rest := [.ref oz]) hF (m_isOf l G yz (nI 0) (louz kb)) (va_cwS 3 hts gX2_hush_X2_isOf rfl rfl rfl (by decide +kernel) ⟨Nat.le_of_ble_eq_true rfl, Nat.le_of_ble_eq_true rfl⟩) hK hP hD hS hA (isC := []) (isR := [0, 1, 2, 3, 4, 5]) (perm := [0, 1, 2, 3, 4, 5]) (wr := wm cI oz loz liz siz shz saz nz camez cz gz louz Dz Sz shdz shsz thz) (wN := wm cI oz loz liz siz shz saz nz camez cz gz louz Dz Sz shdz shsz thz) ⟨rfl, by decide, rfl, by decide, (fun _ _ hz => by cases hz), rfl, by decide⟩ [] rfl rfl hl.1 rfl (Nat.le_of_ble_eq_true rfl) dX2_hush_23 ⟨Nat.le_refl _, Nat.le_refl _⟩ (fun H locs hP hD hS => ?_)
    refine zN (nI 0) (y := (bI (isO yz (nI 0) (louz kb)))) (by rw [hbad]; rfl) ?_
    refine lv_if_ne (tgt := 33) hx hb dX2_hush_26 (by decide) (fun hc26 => ?_) (fun hc26 => ?_)
    · exact absurd hc26 (by decide)
    · skip
      have k26 : 0 = 0 := k0_eq (by omega) hc26
      refine lv_iconst (v := nI 2) hx hb dX2_hush_29 (by decide) ?_
      refine lv_goto (tgt := 34) hx hb dX2_hush_30 (by decide) ?_
      refine va_put (D := G) (ci := 2) (v := .int (nI 2)) (ty := .int) (C := RX2) (T := TX2) (N := 10) hx hb hts hinX2 tyX2 tyX2_ok nmX2 hown hK hP hD hS 0 rfl rfl 9 (by decide) hf25 (fun _ h9 => h9) rfl (by decide +kernel) rfl rfl (Nat.le_of_ble_eq_true rfl) dX2_hush_34 (fun H locs hP hD hS => ?_)
      have hP : va_P G vwCl (wm cI oz loz liz siz shz saz nz camez cz gz louz Dz Sz shdz shsz (nI 2)) H := hP
      have hD : va_D A (wm cI oz loz liz siz shz saz nz camez cz gz louz Dz Sz shdz shsz (nI 2)) := hD
      refine lv_aload_n hx hb dX2_hush_37 rfl (lv_at hl 1 rfl) ?_
      refine va_get (D := G) (ci := 2) (v := .int (nI 2)) (C := RX2) (T := TX2) (N := 10) hx hb hts hinX2 hown hK hP 0 rfl rfl 9 (by decide) hf25 (fun _ h9 => h9) rfl dX2_hush_38 ?_
      refine lv_if_le (tgt := 46) hx hb dX2_hush_41 (by decide) (fun hc41 => ?_) (fun hc41 => ?_)
      · exact absurd hc41 (by decide)
      · skip
        have k41 : 0 < 2 := k0_nle (by omega) hc41
        refine lv_iconst (v := nI 0) hx hb dX2_hush_44 (by decide) ?_
        exact zE_i hF hr hlk hK hP hD hS dX2_hush_45
  · skip
    exact absurd hc8 (fun zz => zz (nI_pos' (by omega)))
set_option maxHeartbeats 4000000 in
set_option maxRecDepth 100000 in
theorem m_hush_0 (l : Launch) (G : va_G) (cI : ClassId) (oz loz liz siz shz saz : Nat) (nz camez : Nat) (cz gz : Int32) (louz Dz Sz shdz shsz : Fn) (thz : Int32) (hn : nz ≤ 63) (hc9 : camez ≤ 500) (hS1 : okS Sz) (hD1 : okD nz Dz) (bz kb : Nat) (hb9 : bz < nz) (hkb : kb < 500) (hf : fnd Dz (nI kb) nz = bz) (yz : Int32) (hok : isO yz (nI 0) (louz kb) = true) : zC_i l yX2_hush wsX2_hush ({ frames := 3, cells := 0, slots := 0, locals := 68 }) G [(cI, .int)] (wm cI oz loz liz siz shz saz nz camez cz gz louz Dz Sz shdz shsz thz) (wm cI oz loz liz siz shz saz nz camez (wc ((riseF false 63 (vM (upd louz kb yz) Dz Sz nz cz gz) bz).1)) (wg ((riseF false 63 (vM (upd louz kb yz) Dz Sz nz cz gz) bz).1)) (upd louz kb yz) (wD ((riseF false 63 (vM (upd louz kb yz) Dz Sz nz cz gz) bz).1)) (wS ((riseF false 63 (vM (upd louz kb yz) Dz Sz nz cz gz) bz).1)) shdz shsz (nI 0)) [.ref oz, .int (nI kb), .int yz] (nI (riseF false 63 (vM (upd louz kb yz) Dz Sz nz cz gz) bz).2) := by
  refine zB_i (cc := cX2_hush) (maxL := 4) (ret := (some .int)) (by decide) rfl (Nat.le_of_ble_eq_true rfl) ?_
  intro p e s m args below meth c0 A hF hr hlk hK hA hP hD hS ls hl
  have hx := hF.1
  have hb := hF.2.1
  have hown := hF.2.2.2.1
  have hts := hF.2.2.2.2
  have hf7 := hts (.fieldLink RX2 7 "SnoringDukesModel" "loud" "[I") (by decide +kernel)
  have hf25 := hts (.fieldLink RX2 25 "SnoringDukesModel" "thrown" "I") (by decide +kernel)
  have hinX2 : ∀ wz ∈ wsX20, wz ∈ wsX2_hush := by decide +kernel
  have hl : lv_has ls 4 [(0, .ref oz), (1, .int (nI kb)), (2, .int yz)] := hl
  refine lv_aload_n hx hb dX2_hush_0 rfl (lv_at hl 0 rfl) ?_
  refine lv_iload_n hx hb dX2_hush_1 rfl (lv_at hl 1 rfl) ?_
  refine zK_vi (As := [.int (nI kb)]) (rest := []) hF (m_find l G cI oz loz liz siz shz saz nz camez cz gz louz Dz Sz shdz shsz thz hn hc9 hS1 hD1 (nI kb)) (cwV 1 hts gX2_hush_X2_find rfl rfl rfl (by decide +kernel) ⟨Nat.le_of_ble_eq_true rfl, Nat.le_of_ble_eq_true rfl⟩) hK hP hD hS hA (ci := 2) (q0 := 0) rfl rfl rfl (isC := [0, 1, 2, 3, 4, 5]) (isR := []) (perm := [0, 1, 2, 3, 4, 5]) (wr := []) (wN := wm cI oz loz liz siz shz saz nz camez cz gz louz Dz Sz shdz shsz thz) ⟨rfl, by decide, rfl, rfl, (fun _ hz => by cases hz), rfl, by decide⟩ [0] rfl rfl hl.1 rfl (Nat.le_of_ble_eq_true rfl) dX2_hush_2 ⟨Nat.le_refl _, Nat.le_refl _⟩ (fun H locs hP hD hS => ?_)
  refine zN (nI bz) (y := (fndI Dz nz (nI kb))) (fndI_at hf hb9) ?_
  refine lv_istore_n (lv' := [(3, .int (nI bz)), (0, .ref oz), (1, .int (nI kb)), (2, .int yz)]) hx hb dX2_hush_5 rfl hl (by decide) rfl (fun ls hl => ?_)
  refine lv_aload_n hx hb dX2_hush_6 rfl (lv_at hl 1 rfl) ?_
  refine lv_iload_n hx hb dX2_hush_7 rfl (lv_at hl 0 rfl) ?_
  refine lv_if_ge (tgt := 15) hx hb dX2_hush_8 (by decide) (fun hc8 => ?_) (fun hc8 => ?_)
  · skip
    refine lv_iload_n hx hb dX2_hush_15 rfl (lv_at hl 3 rfl) ?_
    refine lv_iconst (v := nI 0) hx hb dX2_hush_16 (by decide) ?_
    refine lv_aload_n hx hb dX2_hush_17 rfl (lv_at hl 1 rfl) ?_
    refine va_get (D := G) (ci := 2) (v := .ref loz) (C := RX2) (T := TX2) (N := 10) hx hb hts hinX2 hown hK hP 0 rfl rfl 4 (by decide) hf7 (fun _ h9 => h9) rfl dX2_hush_18 ?_
    refine lv_iload_n hx hb dX2_hush_21 rfl (lv_at hl 2 rfl) ?_
    refine zA_ld hx hb hK hP 1 0 rfl rfl (by omega) (by decide) dX2_hush_22 ?_
    refine zK_si (av := [.int yz, .int (nI 0), .int (louz kb)]) (rest := [.ref oz]) hF (m_isOf l G yz (nI 0) (louz kb)) (va_cwS 3 hts gX2_hush_X2_isOf rfl rfl rfl (by decide +kernel) ⟨Nat.le_of_ble_eq_true rfl, Nat.le_of_ble_eq_true rfl⟩) hK hP hD hS hA (isC := []) (isR := [0, 1, 2, 3, 4, 5]) (perm := [0, 1, 2, 3, 4, 5]) (wr := wm cI oz loz liz siz shz saz nz camez cz gz louz Dz Sz shdz shsz thz) (wN := wm cI oz loz liz siz shz saz nz camez cz gz louz Dz Sz shdz shsz thz) ⟨rfl, by decide, rfl, by decide, (fun _ _ hz => by cases hz), rfl, by decide⟩ [] rfl rfl hl.1 rfl (Nat.le_of_ble_eq_true rfl) dX2_hush_23 ⟨Nat.le_refl _, Nat.le_refl _⟩ (fun H locs hP hD hS => ?_)
    refine zN (nI 1) (y := (bI (isO yz (nI 0) (louz kb)))) (by rw [hok]; rfl) ?_
    refine lv_if_ne (tgt := 33) hx hb dX2_hush_26 (by decide) (fun hc26 => ?_) (fun hc26 => ?_)
    · skip
      have k26 : 0 < 1 := k0_ne (by omega) hc26
      refine lv_iconst (v := nI 0) hx hb dX2_hush_33 (by decide) ?_
      refine va_put (D := G) (ci := 2) (v := .int (nI 0)) (ty := .int) (C := RX2) (T := TX2) (N := 10) hx hb hts hinX2 tyX2 tyX2_ok nmX2 hown hK hP hD hS 0 rfl rfl 9 (by decide) hf25 (fun _ h9 => h9) rfl (by decide +kernel) rfl rfl (Nat.le_of_ble_eq_true rfl) dX2_hush_34 (fun H locs hP hD hS => ?_)
      have hP : va_P G vwCl (wm cI oz loz liz siz shz saz nz camez cz gz louz Dz Sz shdz shsz (nI 0)) H := hP
      have hD : va_D A (wm cI oz loz liz siz shz saz nz camez cz gz louz Dz Sz shdz shsz (nI 0)) := hD
      refine lv_aload_n hx hb dX2_hush_37 rfl (lv_at hl 1 rfl) ?_
      refine va_get (D := G) (ci := 2) (v := .int (nI 0)) (C := RX2) (T := TX2) (N := 10) hx hb hts hinX2 hown hK hP 0 rfl rfl 9 (by decide) hf25 (fun _ h9 => h9) rfl dX2_hush_38 ?_
      refine lv_if_le (tgt := 46) hx hb dX2_hush_41 (by decide) (fun hc41 => ?_) (fun hc41 => ?_)
      · skip
        have k41 : 0 = 0 := k0_le (by omega) hc41
        refine lv_aload_n hx hb dX2_hush_46 rfl (lv_at hl 1 rfl) ?_
        refine va_get (D := G) (ci := 2) (v := .ref loz) (C := RX2) (T := TX2) (N := 10) hx hb hts hinX2 hown hK hP 0 rfl rfl 4 (by decide) hf7 (fun _ h9 => h9) rfl dX2_hush_47 ?_
        refine lv_iload_n hx hb dX2_hush_50 rfl (lv_at hl 2 rfl) ?_
        refine lv_iload_n hx hb dX2_hush_51 rfl (lv_at hl 3 rfl) ?_
        refine zA_st (x := yz) hx hb hK hP hD hS 1 0 rfl rfl (by omega) (by decide) dX2_hush_52 (fun H locs hP hD hS => ?_)
        have hP : va_P G vwCl (wm cI oz loz liz siz shz saz nz camez cz gz (upd louz kb yz) Dz Sz shdz shsz (nI 0)) H := hP
        have hD : va_D A (wm cI oz loz liz siz shz saz nz camez cz gz (upd louz kb yz) Dz Sz shdz shsz (nI 0)) := hD
        refine lv_aload_n hx hb dX2_hush_53 rfl (lv_at hl 1 rfl) ?_
        refine lv_iload_n hx hb dX2_hush_54 rfl (lv_at hl 0 rfl) ?_
        refine lv_iconst (v := nI 0) hx hb dX2_hush_55 (by decide) ?_
        refine zK_vi (As := [.int (nI bz), .int (nI 0)]) (rest := []) hF (m_rises l G cI oz loz liz siz shz saz nz camez cz gz (upd louz kb yz) Dz Sz shdz shsz (nI 0) (by omega) (by omega) hS1 hD1 bz (by omega) false) (cwV 2 hts gX2_hush_X2_rises rfl rfl rfl (by decide +kernel) ⟨Nat.le_of_ble_eq_true rfl, Nat.le_of_ble_eq_true rfl⟩) hK hP hD hS hA (ci := 2) (q0 := 0) rfl rfl rfl (isC := [0, 1, 2, 3, 4, 5]) (isR := []) (perm := [0, 1, 2, 3, 4, 5]) (wr := []) (wN := wm cI oz loz liz siz shz saz nz camez (wc ((riseF false 63 (vM (upd louz kb yz) Dz Sz nz cz gz) bz).1)) (wg ((riseF false 63 (vM (upd louz kb yz) Dz Sz nz cz gz) bz).1)) (upd louz kb yz) (wD ((riseF false 63 (vM (upd louz kb yz) Dz Sz nz cz gz) bz).1)) (wS ((riseF false 63 (vM (upd louz kb yz) Dz Sz nz cz gz) bz).1)) shdz shsz (nI 0)) ⟨rfl, by decide, rfl, rfl, (fun _ hz => by cases hz), rfl, by decide⟩ [0] rfl rfl hl.1 rfl (Nat.le_of_ble_eq_true rfl) dX2_hush_56 ⟨Nat.le_refl _, Nat.le_refl _⟩ (fun H locs hP hD hS => ?_)
        obtain ⟨D7, S7, c7, g7, hu7, hz7, hy7⟩ := riseM_ex false (lou := upd louz kb yz) 63 (c := cz) (g := gz) (b := bz) hS1 hD1 (by omega)
        have hP : va_P G vwCl (wm cI oz loz liz siz shz saz nz camez c7 g7 (upd louz kb yz) D7 S7 shdz shsz (nI 0)) H := by have qz := hP; rw [hu7] at qz; exact qz
        have hD : va_D A (wm cI oz loz liz siz shz saz nz camez c7 g7 (upd louz kb yz) D7 S7 shdz shsz (nI 0)) := by have qz := hD; rw [hu7] at qz; exact qz
        rw [hu7]
        exact zE_i hF hr hlk hK hP hD hS dX2_hush_59
      · exact absurd hc41 (by decide)
    · exact absurd hc26 (by decide)
  · skip
    exact absurd hc8 (fun zz => zz (nI_pos' (by omega)))
set_option maxHeartbeats 4000000 in
set_option maxRecDepth 100000 in
theorem m_fetch_1 (l : Launch) (G : va_G) (cI : ClassId) (oz loz liz siz shz saz : Nat) (nz camez : Nat) (cz gz : Int32) (louz Dz Sz shdz shsz : Fn) (thz : Int32) (hn : nz ≤ 63) (hc9 : camez ≤ 500) (hS1 : okS Sz) (hD1 : okD nz Dz) (xz : Int32) (hno : ¬ fnd Dz xz nz < nz) : zC_i l yX2_fetch wsX2_fetch ({ frames := 3, cells := 0, slots := 0, locals := 68 }) G [(cI, .int)] (wm cI oz loz liz siz shz saz nz camez cz gz louz Dz Sz shdz shsz thz) (wm cI oz loz liz siz shz saz nz camez cz gz louz Dz Sz shdz shsz (nI 1)) [.ref oz, .int xz] (nI 0) := by
  refine zB_i (cc := cX2_fetch) (maxL := 6) (ret := (some .int)) (by decide) rfl (Nat.le_of_ble_eq_true rfl) ?_
  intro p e s m args below meth c0 A hF hr hlk hK hA hP hD hS ls hl
  have hx := hF.1
  have hb := hF.2.1
  have hown := hF.2.2.2.1
  have hts := hF.2.2.2.2
  have hf25 := hts (.fieldLink RX2 25 "SnoringDukesModel" "thrown" "I") (by decide +kernel)
  have hf36 := hts (.fieldLink RX2 36 "SnoringDukesModel" "compared" "I") (by decide +kernel)
  have hinX2 : ∀ wz ∈ wsX20, wz ∈ wsX2_fetch := by decide +kernel
  have hl : lv_has ls 6 [(0, .ref oz), (1, .int xz)] := hl
  refine lv_aload_n hx hb dX2_fetch_0 rfl (lv_at hl 0 rfl) ?_
  refine lv_iload_n hx hb dX2_fetch_1 rfl (lv_at hl 1 rfl) ?_
  refine zK_vi (As := [.int xz]) (rest := []) hF (m_find l G cI oz loz liz siz shz saz nz camez cz gz louz Dz Sz shdz shsz thz hn hc9 hS1 hD1 xz) (cwV 1 hts gX2_fetch_X2_find rfl rfl rfl (by decide +kernel) ⟨Nat.le_of_ble_eq_true rfl, Nat.le_of_ble_eq_true rfl⟩) hK hP hD hS hA (ci := 2) (q0 := 0) rfl rfl rfl (isC := [0, 1, 2, 3, 4, 5]) (isR := []) (perm := [0, 1, 2, 3, 4, 5]) (wr := []) (wN := wm cI oz loz liz siz shz saz nz camez cz gz louz Dz Sz shdz shsz thz) ⟨rfl, by decide, rfl, rfl, (fun _ hz => by cases hz), rfl, by decide⟩ [0] rfl rfl hl.1 rfl (Nat.le_of_ble_eq_true rfl) dX2_fetch_2 ⟨Nat.le_refl _, Nat.le_refl _⟩ (fun H locs hP hD hS => ?_)
  refine zN (-1) (y := (fndI Dz nz xz)) (fndI_no hno) ?_
  refine lv_istore_n (lv' := [(2, .int (-1)), (0, .ref oz), (1, .int xz)]) hx hb dX2_fetch_5 rfl hl (by decide) rfl (fun ls hl => ?_)
  refine lv_aload_n hx hb dX2_fetch_6 rfl (lv_at hl 1 rfl) ?_
  refine lv_iload_n hx hb dX2_fetch_7 rfl (lv_at hl 0 rfl) ?_
  refine lv_if_ge (tgt := 15) hx hb dX2_fetch_8 (by decide) (fun hc8 => ?_) (fun hc8 => ?_)
  · exact absurd hc8 (by decide)
  · skip
    refine lv_iconst (v := nI 1) hx hb dX2_fetch_11 (by decide) ?_
    refine lv_goto (tgt := 16) hx hb dX2_fetch_12 (by decide) ?_
    refine va_put (D := G) (ci := 2) (v := .int (nI 1)) (ty := .int) (C := RX2) (T := TX2) (N := 10) hx hb hts hinX2 tyX2 tyX2_ok nmX2 hown hK hP hD hS 0 rfl rfl 9 (by decide) hf25 (fun _ h9 => h9) rfl (by decide +kernel) rfl rfl (Nat.le_of_ble_eq_true rfl) dX2_fetch_16 (fun H locs hP hD hS => ?_)
    have hP : va_P G vwCl (wm cI oz loz liz siz shz saz nz camez cz gz louz Dz Sz shdz shsz (nI 1)) H := hP
    have hD : va_D A (wm cI oz loz liz siz shz saz nz camez cz gz louz Dz Sz shdz shsz (nI 1)) := hD
    refine lv_aload_n hx hb dX2_fetch_19 rfl (lv_at hl 1 rfl) ?_
    refine va_get (D := G) (ci := 2) (v := .int (nI 1)) (C := RX2) (T := TX2) (N := 10) hx hb hts hinX2 hown hK hP 0 rfl rfl 9 (by decide) hf25 (fun _ h9 => h9) rfl dX2_fetch_20 ?_
    refine lv_if_le (tgt := 28) hx hb dX2_fetch_23 (by decide) (fun hc23 => ?_) (fun hc23 => ?_)
    · exact absurd hc23 (by decide)
    · skip
      have k23 : 0 < 1 := k0_nle (by omega) hc23
      refine lv_iconst (v := nI 0) hx hb dX2_fetch_26 (by decide) ?_
      exact zE_i hF hr hlk hK hP hD hS dX2_fetch_27
set_option maxHeartbeats 4000000 in
set_option maxRecDepth 100000 in
theorem m_fetch_0 (l : Launch) (G : va_G) (cI : ClassId) (oz loz liz siz shz saz : Nat) (nz camez : Nat) (cz gz : Int32) (louz Dz Sz shdz shsz : Fn) (thz : Int32) (hn : nz ≤ 63) (hc9 : camez ≤ 500) (hS1 : okS Sz) (hD1 : okD nz Dz) (bz kb : Nat) (hb9 : bz < nz) (hkb : kb < 500) (hf : fnd Dz (nI kb) nz = bz)  : zC_i l yX2_fetch wsX2_fetch ({ frames := 3, cells := 0, slots := 0, locals := 68 }) G [(cI, .int)] (wm cI oz loz liz siz shz saz nz camez cz gz louz Dz Sz shdz shsz thz) (wm cI oz loz liz siz shz saz (nz - 1) camez (wc (rmF (riseF true 63 (vM louz Dz Sz nz cz gz) bz).1)) (wg (rmF (riseF true 63 (vM louz Dz Sz nz cz gz) bz).1)) louz (wD (rmF (riseF true 63 (vM louz Dz Sz nz cz gz) bz).1)) (wS (rmF (riseF true 63 (vM louz Dz Sz nz cz gz) bz).1)) shdz shsz (nI 0)) [.ref oz, .int (nI kb)] (wc (rmF (riseF true 63 (vM louz Dz Sz nz cz gz) bz).1) - cz) := by
  refine zB_i (cc := cX2_fetch) (maxL := 6) (ret := (some .int)) (by decide) rfl (Nat.le_of_ble_eq_true rfl) ?_
  intro p e s m args below meth c0 A hF hr hlk hK hA hP hD hS ls hl
  have hx := hF.1
  have hb := hF.2.1
  have hown := hF.2.2.2.1
  have hts := hF.2.2.2.2
  have hf25 := hts (.fieldLink RX2 25 "SnoringDukesModel" "thrown" "I") (by decide +kernel)
  have hf36 := hts (.fieldLink RX2 36 "SnoringDukesModel" "compared" "I") (by decide +kernel)
  have hinX2 : ∀ wz ∈ wsX20, wz ∈ wsX2_fetch := by decide +kernel
  have hl : lv_has ls 6 [(0, .ref oz), (1, .int (nI kb))] := hl
  refine lv_aload_n hx hb dX2_fetch_0 rfl (lv_at hl 0 rfl) ?_
  refine lv_iload_n hx hb dX2_fetch_1 rfl (lv_at hl 1 rfl) ?_
  refine zK_vi (As := [.int (nI kb)]) (rest := []) hF (m_find l G cI oz loz liz siz shz saz nz camez cz gz louz Dz Sz shdz shsz thz hn hc9 hS1 hD1 (nI kb)) (cwV 1 hts gX2_fetch_X2_find rfl rfl rfl (by decide +kernel) ⟨Nat.le_of_ble_eq_true rfl, Nat.le_of_ble_eq_true rfl⟩) hK hP hD hS hA (ci := 2) (q0 := 0) rfl rfl rfl (isC := [0, 1, 2, 3, 4, 5]) (isR := []) (perm := [0, 1, 2, 3, 4, 5]) (wr := []) (wN := wm cI oz loz liz siz shz saz nz camez cz gz louz Dz Sz shdz shsz thz) ⟨rfl, by decide, rfl, rfl, (fun _ hz => by cases hz), rfl, by decide⟩ [0] rfl rfl hl.1 rfl (Nat.le_of_ble_eq_true rfl) dX2_fetch_2 ⟨Nat.le_refl _, Nat.le_refl _⟩ (fun H locs hP hD hS => ?_)
  refine zN (nI bz) (y := (fndI Dz nz (nI kb))) (fndI_at hf hb9) ?_
  refine lv_istore_n (lv' := [(2, .int (nI bz)), (0, .ref oz), (1, .int (nI kb))]) hx hb dX2_fetch_5 rfl hl (by decide) rfl (fun ls hl => ?_)
  refine lv_aload_n hx hb dX2_fetch_6 rfl (lv_at hl 1 rfl) ?_
  refine lv_iload_n hx hb dX2_fetch_7 rfl (lv_at hl 0 rfl) ?_
  refine lv_if_ge (tgt := 15) hx hb dX2_fetch_8 (by decide) (fun hc8 => ?_) (fun hc8 => ?_)
  · skip
    refine lv_iconst (v := nI 0) hx hb dX2_fetch_15 (by decide) ?_
    refine va_put (D := G) (ci := 2) (v := .int (nI 0)) (ty := .int) (C := RX2) (T := TX2) (N := 10) hx hb hts hinX2 tyX2 tyX2_ok nmX2 hown hK hP hD hS 0 rfl rfl 9 (by decide) hf25 (fun _ h9 => h9) rfl (by decide +kernel) rfl rfl (Nat.le_of_ble_eq_true rfl) dX2_fetch_16 (fun H locs hP hD hS => ?_)
    have hP : va_P G vwCl (wm cI oz loz liz siz shz saz nz camez cz gz louz Dz Sz shdz shsz (nI 0)) H := hP
    have hD : va_D A (wm cI oz loz liz siz shz saz nz camez cz gz louz Dz Sz shdz shsz (nI 0)) := hD
    refine lv_aload_n hx hb dX2_fetch_19 rfl (lv_at hl 1 rfl) ?_
    refine va_get (D := G) (ci := 2) (v := .int (nI 0)) (C := RX2) (T := TX2) (N := 10) hx hb hts hinX2 hown hK hP 0 rfl rfl 9 (by decide) hf25 (fun _ h9 => h9) rfl dX2_fetch_20 ?_
    refine lv_if_le (tgt := 28) hx hb dX2_fetch_23 (by decide) (fun hc23 => ?_) (fun hc23 => ?_)
    · skip
      have k23 : 0 = 0 := k0_le (by omega) hc23
      refine lv_aload_n hx hb dX2_fetch_28 rfl (lv_at hl 1 rfl) ?_
      refine va_get (D := G) (ci := 2) (v := .int cz) (C := RX2) (T := TX2) (N := 10) hx hb hts hinX2 hown hK hP 0 rfl rfl 2 (by decide) hf36 (fun _ h9 => h9) rfl dX2_fetch_29 ?_
      refine lv_istore_n (lv' := [(3, .int cz), (2, .int (nI bz)), (0, .ref oz), (1, .int (nI kb))]) hx hb dX2_fetch_32 rfl hl (by decide) rfl (fun ls hl => ?_)
      refine lv_aload_n hx hb dX2_fetch_33 rfl (lv_at hl 2 rfl) ?_
      refine lv_iload_n hx hb dX2_fetch_34 rfl (lv_at hl 1 rfl) ?_
      refine lv_iconst (v := nI 1) hx hb dX2_fetch_35 (by decide) ?_
      refine zK_vi (As := [.int (nI bz), .int (nI 1)]) (rest := []) hF (m_rises l G cI oz loz liz siz shz saz nz camez cz gz louz Dz Sz shdz shsz (nI 0) (by omega) (by omega) hS1 hD1 bz (by omega) true) (cwV 2 hts gX2_fetch_X2_rises rfl rfl rfl (by decide +kernel) ⟨Nat.le_of_ble_eq_true rfl, Nat.le_of_ble_eq_true rfl⟩) hK hP hD hS hA (ci := 2) (q0 := 0) rfl rfl rfl (isC := [0, 1, 2, 3, 4, 5]) (isR := []) (perm := [0, 1, 2, 3, 4, 5]) (wr := []) (wN := wm cI oz loz liz siz shz saz nz camez (wc ((riseF true 63 (vM louz Dz Sz nz cz gz) bz).1)) (wg ((riseF true 63 (vM louz Dz Sz nz cz gz) bz).1)) louz (wD ((riseF true 63 (vM louz Dz Sz nz cz gz) bz).1)) (wS ((riseF true 63 (vM louz Dz Sz nz cz gz) bz).1)) shdz shsz (nI 0)) ⟨rfl, by decide, rfl, rfl, (fun _ hz => by cases hz), rfl, by decide⟩ [0] rfl rfl hl.1 rfl (Nat.le_of_ble_eq_true rfl) dX2_fetch_36 ⟨Nat.le_refl _, Nat.le_refl _⟩ (fun H locs hP hD hS => ?_)
      obtain ⟨D8, S8, c8, g8, hu8, hz8, hy8⟩ := riseM_ex true (lou := louz) 63 (c := cz) (g := gz) (b := bz) hS1 hD1 (by omega)
      have hP : va_P G vwCl (wm cI oz loz liz siz shz saz nz camez c8 g8 louz D8 S8 shdz shsz (nI 0)) H := by have qz := hP; rw [hu8] at qz; exact qz
      have hD : va_D A (wm cI oz loz liz siz shz saz nz camez c8 g8 louz D8 S8 shdz shsz (nI 0)) := by have qz := hD; rw [hu8] at qz; exact qz
      refine lv_istore (lv' := [(4, .int (nI (riseF true 63 (vM louz Dz Sz nz cz gz) bz).2)), (3, .int cz), (2, .int (nI bz)), (0, .ref oz), (1, .int (nI kb))]) hx hb dX2_fetch_39 hl (by decide) rfl (fun ls hl => ?_)
      refine lv_aload_n hx hb dX2_fetch_41 rfl (lv_at hl 3 rfl) ?_
      refine zK_vi (As := []) (rest := []) hF (m_leaves l G cI oz loz liz siz shz saz nz camez c8 g8 louz D8 S8 shdz shsz (nI 0) (by omega) (by omega) hz8 hy8 (by omega)) (cwV 0 hts gX2_fetch_X2_leaves rfl rfl rfl (by decide +kernel) ⟨Nat.le_of_ble_eq_true rfl, Nat.le_of_ble_eq_true rfl⟩) hK hP hD hS hA (ci := 2) (q0 := 0) rfl rfl rfl (isC := [0, 1, 2, 3, 4, 5]) (isR := []) (perm := [0, 1, 2, 3, 4, 5]) (wr := []) (wN := wm cI oz loz liz siz shz saz (nz - 1) camez (wc (rmF (vM louz D8 S8 nz c8 g8))) (wg (rmF (vM louz D8 S8 nz c8 g8))) louz (wD (rmF (vM louz D8 S8 nz c8 g8))) (wS (rmF (vM louz D8 S8 nz c8 g8))) shdz shsz (nI 0)) ⟨rfl, by decide, rfl, rfl, (fun _ hz => by cases hz), rfl, by decide⟩ [0] rfl rfl hl.1 rfl (Nat.le_of_ble_eq_true rfl) dX2_fetch_42 ⟨Nat.le_refl _, Nat.le_refl _⟩ (fun H locs hP hD hS => ?_)
      obtain ⟨D9, S9, c9, g9, hu9, hz9, hy9⟩ := rmM_ex (lou := louz) (c := c8) (g := g8) hz8 hy8 (by omega) (by omega) (m := nz - 1) (by omega)
      have hP : va_P G vwCl (wm cI oz loz liz siz shz saz (nz - 1) camez c9 g9 louz D9 S9 shdz shsz (nI 0)) H := by have qz := hP; rw [hu9] at qz; exact qz
      have hD : va_D A (wm cI oz loz liz siz shz saz (nz - 1) camez c9 g9 louz D9 S9 shdz shsz (nI 0)) := by have qz := hD; rw [hu9] at qz; exact qz
      refine lv_istore (lv' := [(5, .int (D8 0)), (4, .int (nI (riseF true 63 (vM louz Dz Sz nz cz gz) bz).2)), (3, .int cz), (2, .int (nI bz)), (0, .ref oz), (1, .int (nI kb))]) hx hb dX2_fetch_45 hl (by decide) rfl (fun ls hl => ?_)
      refine lv_aload_n hx hb dX2_fetch_47 rfl (lv_at hl 4 rfl) ?_
      refine va_get (D := G) (ci := 2) (v := .int c9) (C := RX2) (T := TX2) (N := 10) hx hb hts hinX2 hown hK hP 0 rfl rfl 2 (by decide) hf36 (fun _ h9 => h9) rfl dX2_fetch_48 ?_
      refine lv_iload_n hx hb dX2_fetch_51 rfl (lv_at hl 2 rfl) ?_
      refine lv_isub hx hb dX2_fetch_52 ?_
      rw [hu8, hu9]
      exact zE_i hF hr hlk hK hP hD hS dX2_fetch_53
    · exact absurd hc23 (by decide)
  · skip
    exact absurd hc8 (fun zz => zz (nI_pos' (by omega)))
set_option maxHeartbeats 4000000 in
set_option maxRecDepth 100000 in
theorem m_coach_1 (l : Launch) (G : va_G) (cI : ClassId) (oz loz liz siz shz saz : Nat) (nz camez : Nat) (cz gz : Int32) (louz Dz Sz shdz shsz : Fn) (thz : Int32) (hn : nz ≤ 63) (hc9 : camez ≤ 500) (hS1 : okS Sz) (hD1 : okD nz Dz) (zz xz yz : Int32) (hbad : (isO zz (nI 1) (nI 20) && isO xz (nI 0) (nI 999) && isO yz (nI 0) (nI 999)) = false) : zC_i l yX2_coach wsX2_coach ({ frames := 2, cells := 0, slots := 0, locals := 43 }) G [(cI, .int)] (wm cI oz loz liz siz shz saz nz camez cz gz louz Dz Sz shdz shsz thz) (wm cI oz loz liz siz shz saz nz camez cz gz louz Dz Sz shdz shsz (nI 1)) [.ref oz, .int zz, .int xz, .int yz] (nI 0) := by
  refine zB_i (cc := cX2_coach) (maxL := 7) (ret := (some .int)) (by decide) rfl (Nat.le_of_ble_eq_true rfl) ?_
  intro p e s m args below meth c0 A hF hr hlk hK hA hP hD hS ls hl
  have hx := hF.1
  have hb := hF.2.1
  have hown := hF.2.2.2.1
  have hts := hF.2.2.2.2
  have hf29 := hts (.fieldLink RX2 29 "SnoringDukesModel" "many" "I") (by decide +kernel)
  have hf49 := hts (.fieldLink RX2 49 "SnoringDukesModel" "came" "I") (by decide +kernel)
  have hf25 := hts (.fieldLink RX2 25 "SnoringDukesModel" "thrown" "I") (by decide +kernel)
  have hf16 := hts (.fieldLink RX2 16 "SnoringDukesModel" "side" "[I") (by decide +kernel)
  have hinX2 : ∀ wz ∈ wsX20, wz ∈ wsX2_coach := by decide +kernel
  have hl : lv_has ls 7 [(0, .ref oz), (1, .int zz), (2, .int xz), (3, .int yz)] := hl
  refine lv_iload_n hx hb dX2_coach_0 rfl (lv_at hl 1 rfl) ?_
  refine lv_iconst (v := nI 1) hx hb dX2_coach_1 (by decide) ?_
  refine lv_bipush (v := nI 20) hx hb dX2_coach_2 (by decide) ?_
  refine zK_si (av := [.int zz, .int (nI 1), .int (nI 20)]) (rest := []) hF (m_isOf l G zz (nI 1) (nI 20)) (va_cwS 3 hts gX2_coach_X2_isOf rfl rfl rfl (by decide +kernel) ⟨Nat.le_of_ble_eq_true rfl, Nat.le_of_ble_eq_true rfl⟩) hK hP hD hS hA (isC := []) (isR := [0, 1, 2, 3, 4, 5]) (perm := [0, 1, 2, 3, 4, 5]) (wr := wm cI oz loz liz siz shz saz nz camez cz gz louz Dz Sz shdz shsz thz) (wN := wm cI oz loz liz siz shz saz nz camez cz gz louz Dz Sz shdz shsz thz) ⟨rfl, by decide, rfl, by decide, (fun _ _ hz => by cases hz), rfl, by decide⟩ [] rfl rfl hl.1 rfl (Nat.le_of_ble_eq_true rfl) dX2_coach_4 ⟨Nat.le_refl _, Nat.le_refl _⟩ (fun H locs hP hD hS => ?_)
  refine lv_if_eq (tgt := 36) hx hb dX2_coach_7 (by decide) (fun hc7 => ?_) (fun hc7 => ?_)
  · skip
    have k7 : (isO zz (nI 1) (nI 20)) = false := bI_e0.mp hc7
    refine lv_iconst (v := nI 0) hx hb dX2_coach_36 (by decide) ?_
    refine lv_istore (lv' := [(4, .int (nI 0)), (0, .ref oz), (1, .int zz), (2, .int xz), (3, .int yz)]) hx hb dX2_coach_37 hl (by decide) rfl (fun ls hl => ?_)
    refine lv_aload_n hx hb dX2_coach_39 rfl (lv_at hl 1 rfl) ?_
    refine lv_iload hx hb dX2_coach_40 (lv_at hl 0 rfl) ?_
    refine lv_if_ne (tgt := 49) hx hb dX2_coach_42 (by decide) (fun hc42 => ?_) (fun hc42 => ?_)
    · exact absurd hc42 (by decide)
    · skip
      have k42 : 0 = 0 := k0_eq (by omega) hc42
      refine lv_iconst (v := nI 1) hx hb dX2_coach_45 (by decide) ?_
      refine lv_goto (tgt := 77) hx hb dX2_coach_46 (by decide) ?_
      refine va_put (D := G) (ci := 2) (v := .int (nI 1)) (ty := .int) (C := RX2) (T := TX2) (N := 10) hx hb hts hinX2 tyX2 tyX2_ok nmX2 hown hK hP hD hS 0 rfl rfl 9 (by decide) hf25 (fun _ h9 => h9) rfl (by decide +kernel) rfl rfl (Nat.le_of_ble_eq_true rfl) dX2_coach_77 (fun H locs hP hD hS => ?_)
      have hP : va_P G vwCl (wm cI oz loz liz siz shz saz nz camez cz gz louz Dz Sz shdz shsz (nI 1)) H := hP
      have hD : va_D A (wm cI oz loz liz siz shz saz nz camez cz gz louz Dz Sz shdz shsz (nI 1)) := hD
      refine lv_aload_n hx hb dX2_coach_80 rfl (lv_at hl 1 rfl) ?_
      refine va_get (D := G) (ci := 2) (v := .int (nI 1)) (C := RX2) (T := TX2) (N := 10) hx hb hts hinX2 hown hK hP 0 rfl rfl 9 (by decide) hf25 (fun _ h9 => h9) rfl dX2_coach_81 ?_
      refine lv_if_le (tgt := 89) hx hb dX2_coach_84 (by decide) (fun hc84 => ?_) (fun hc84 => ?_)
      · exact absurd hc84 (by decide)
      · skip
        have k84 : 0 < 1 := k0_nle (by omega) hc84
        refine lv_iconst (v := nI 0) hx hb dX2_coach_87 (by decide) ?_
        exact zE_i hF hr hlk hK hP hD hS dX2_coach_88
  · skip
    have k7 : (isO zz (nI 1) (nI 20)) = true := bI_ne.mp hc7
    refine lv_iload_n hx hb dX2_coach_10 rfl (lv_at hl 2 rfl) ?_
    refine lv_iconst (v := nI 0) hx hb dX2_coach_11 (by decide) ?_
    refine lv_sipush (v := nI 999) hx hb dX2_coach_12 (by decide) ?_
    refine zK_si (av := [.int xz, .int (nI 0), .int (nI 999)]) (rest := []) hF (m_isOf l G xz (nI 0) (nI 999)) (va_cwS 3 hts gX2_coach_X2_isOf rfl rfl rfl (by decide +kernel) ⟨Nat.le_of_ble_eq_true rfl, Nat.le_of_ble_eq_true rfl⟩) hK hP hD hS hA (isC := []) (isR := [0, 1, 2, 3, 4, 5]) (perm := [0, 1, 2, 3, 4, 5]) (wr := wm cI oz loz liz siz shz saz nz camez cz gz louz Dz Sz shdz shsz thz) (wN := wm cI oz loz liz siz shz saz nz camez cz gz louz Dz Sz shdz shsz thz) ⟨rfl, by decide, rfl, by decide, (fun _ _ hz => by cases hz), rfl, by decide⟩ [] rfl rfl hl.1 rfl (Nat.le_of_ble_eq_true rfl) dX2_coach_15 ⟨Nat.le_refl _, Nat.le_refl _⟩ (fun H locs hP hD hS => ?_)
    refine lv_if_eq (tgt := 36) hx hb dX2_coach_18 (by decide) (fun hc18 => ?_) (fun hc18 => ?_)
    · skip
      have k18 : (isO xz (nI 0) (nI 999)) = false := bI_e0.mp hc18
      refine lv_iconst (v := nI 0) hx hb dX2_coach_36 (by decide) ?_
      refine lv_istore (lv' := [(4, .int (nI 0)), (0, .ref oz), (1, .int zz), (2, .int xz), (3, .int yz)]) hx hb dX2_coach_37 hl (by decide) rfl (fun ls hl => ?_)
      refine lv_aload_n hx hb dX2_coach_39 rfl (lv_at hl 1 rfl) ?_
      refine lv_iload hx hb dX2_coach_40 (lv_at hl 0 rfl) ?_
      refine lv_if_ne (tgt := 49) hx hb dX2_coach_42 (by decide) (fun hc42 => ?_) (fun hc42 => ?_)
      · exact absurd hc42 (by decide)
      · skip
        have k42 : 0 = 0 := k0_eq (by omega) hc42
        refine lv_iconst (v := nI 1) hx hb dX2_coach_45 (by decide) ?_
        refine lv_goto (tgt := 77) hx hb dX2_coach_46 (by decide) ?_
        refine va_put (D := G) (ci := 2) (v := .int (nI 1)) (ty := .int) (C := RX2) (T := TX2) (N := 10) hx hb hts hinX2 tyX2 tyX2_ok nmX2 hown hK hP hD hS 0 rfl rfl 9 (by decide) hf25 (fun _ h9 => h9) rfl (by decide +kernel) rfl rfl (Nat.le_of_ble_eq_true rfl) dX2_coach_77 (fun H locs hP hD hS => ?_)
        have hP : va_P G vwCl (wm cI oz loz liz siz shz saz nz camez cz gz louz Dz Sz shdz shsz (nI 1)) H := hP
        have hD : va_D A (wm cI oz loz liz siz shz saz nz camez cz gz louz Dz Sz shdz shsz (nI 1)) := hD
        refine lv_aload_n hx hb dX2_coach_80 rfl (lv_at hl 1 rfl) ?_
        refine va_get (D := G) (ci := 2) (v := .int (nI 1)) (C := RX2) (T := TX2) (N := 10) hx hb hts hinX2 hown hK hP 0 rfl rfl 9 (by decide) hf25 (fun _ h9 => h9) rfl dX2_coach_81 ?_
        refine lv_if_le (tgt := 89) hx hb dX2_coach_84 (by decide) (fun hc84 => ?_) (fun hc84 => ?_)
        · exact absurd hc84 (by decide)
        · skip
          have k84 : 0 < 1 := k0_nle (by omega) hc84
          refine lv_iconst (v := nI 0) hx hb dX2_coach_87 (by decide) ?_
          exact zE_i hF hr hlk hK hP hD hS dX2_coach_88
    · skip
      have k18 : (isO xz (nI 0) (nI 999)) = true := bI_ne.mp hc18
      refine lv_iload_n hx hb dX2_coach_21 rfl (lv_at hl 3 rfl) ?_
      refine lv_iconst (v := nI 0) hx hb dX2_coach_22 (by decide) ?_
      refine lv_sipush (v := nI 999) hx hb dX2_coach_23 (by decide) ?_
      refine zK_si (av := [.int yz, .int (nI 0), .int (nI 999)]) (rest := []) hF (m_isOf l G yz (nI 0) (nI 999)) (va_cwS 3 hts gX2_coach_X2_isOf rfl rfl rfl (by decide +kernel) ⟨Nat.le_of_ble_eq_true rfl, Nat.le_of_ble_eq_true rfl⟩) hK hP hD hS hA (isC := []) (isR := [0, 1, 2, 3, 4, 5]) (perm := [0, 1, 2, 3, 4, 5]) (wr := wm cI oz loz liz siz shz saz nz camez cz gz louz Dz Sz shdz shsz thz) (wN := wm cI oz loz liz siz shz saz nz camez cz gz louz Dz Sz shdz shsz thz) ⟨rfl, by decide, rfl, by decide, (fun _ _ hz => by cases hz), rfl, by decide⟩ [] rfl rfl hl.1 rfl (Nat.le_of_ble_eq_true rfl) dX2_coach_26 ⟨Nat.le_refl _, Nat.le_refl _⟩ (fun H locs hP hD hS => ?_)
      refine lv_if_eq (tgt := 36) hx hb dX2_coach_29 (by decide) (fun hc29 => ?_) (fun hc29 => ?_)
      · skip
        have k29 : (isO yz (nI 0) (nI 999)) = false := bI_e0.mp hc29
        refine lv_iconst (v := nI 0) hx hb dX2_coach_36 (by decide) ?_
        refine lv_istore (lv' := [(4, .int (nI 0)), (0, .ref oz), (1, .int zz), (2, .int xz), (3, .int yz)]) hx hb dX2_coach_37 hl (by decide) rfl (fun ls hl => ?_)
        refine lv_aload_n hx hb dX2_coach_39 rfl (lv_at hl 1 rfl) ?_
        refine lv_iload hx hb dX2_coach_40 (lv_at hl 0 rfl) ?_
        refine lv_if_ne (tgt := 49) hx hb dX2_coach_42 (by decide) (fun hc42 => ?_) (fun hc42 => ?_)
        · exact absurd hc42 (by decide)
        · skip
          have k42 : 0 = 0 := k0_eq (by omega) hc42
          refine lv_iconst (v := nI 1) hx hb dX2_coach_45 (by decide) ?_
          refine lv_goto (tgt := 77) hx hb dX2_coach_46 (by decide) ?_
          refine va_put (D := G) (ci := 2) (v := .int (nI 1)) (ty := .int) (C := RX2) (T := TX2) (N := 10) hx hb hts hinX2 tyX2 tyX2_ok nmX2 hown hK hP hD hS 0 rfl rfl 9 (by decide) hf25 (fun _ h9 => h9) rfl (by decide +kernel) rfl rfl (Nat.le_of_ble_eq_true rfl) dX2_coach_77 (fun H locs hP hD hS => ?_)
          have hP : va_P G vwCl (wm cI oz loz liz siz shz saz nz camez cz gz louz Dz Sz shdz shsz (nI 1)) H := hP
          have hD : va_D A (wm cI oz loz liz siz shz saz nz camez cz gz louz Dz Sz shdz shsz (nI 1)) := hD
          refine lv_aload_n hx hb dX2_coach_80 rfl (lv_at hl 1 rfl) ?_
          refine va_get (D := G) (ci := 2) (v := .int (nI 1)) (C := RX2) (T := TX2) (N := 10) hx hb hts hinX2 hown hK hP 0 rfl rfl 9 (by decide) hf25 (fun _ h9 => h9) rfl dX2_coach_81 ?_
          refine lv_if_le (tgt := 89) hx hb dX2_coach_84 (by decide) (fun hc84 => ?_) (fun hc84 => ?_)
          · exact absurd hc84 (by decide)
          · skip
            have k84 : 0 < 1 := k0_nle (by omega) hc84
            refine lv_iconst (v := nI 0) hx hb dX2_coach_87 (by decide) ?_
            exact zE_i hF hr hlk hK hP hD hS dX2_coach_88
      · skip
        have k29 : (isO yz (nI 0) (nI 999)) = true := bI_ne.mp hc29
        rw [k7, k18, k29] at hbad
        exact absurd hbad (by decide)
set_option maxHeartbeats 4000000 in
set_option maxRecDepth 100000 in
theorem m_coach_2 (l : Launch) (G : va_G) (cI : ClassId) (oz loz liz siz shz saz : Nat) (nz camez : Nat) (cz gz : Int32) (louz Dz Sz shdz shsz : Fn) (thz : Int32) (hn : nz ≤ 63) (hc9 : camez ≤ 500) (hS1 : okS Sz) (hD1 : okD nz Dz) (kk : Nat) (xz yz : Int32) (ho1 : isO (nI kk) (nI 1) (nI 20) = true) (ho2 : isO xz (nI 0) (nI 999) = true) (ho3 : isO yz (nI 0) (nI 999) = true) (hk9 : kk ≤ 20) (hfull : 63 < nz + kk ∨ 500 < camez + kk) : zC_i l yX2_coach wsX2_coach ({ frames := 2, cells := 0, slots := 0, locals := 43 }) G [(cI, .int)] (wm cI oz loz liz siz shz saz nz camez cz gz louz Dz Sz shdz shsz thz) (wm cI oz loz liz siz shz saz nz camez cz gz louz Dz Sz shdz shsz (nI 2)) [.ref oz, .int (nI kk), .int xz, .int yz] (nI 0) := by
  refine zB_i (cc := cX2_coach) (maxL := 7) (ret := (some .int)) (by decide) rfl (Nat.le_of_ble_eq_true rfl) ?_
  intro p e s m args below meth c0 A hF hr hlk hK hA hP hD hS ls hl
  have hx := hF.1
  have hb := hF.2.1
  have hown := hF.2.2.2.1
  have hts := hF.2.2.2.2
  have hf29 := hts (.fieldLink RX2 29 "SnoringDukesModel" "many" "I") (by decide +kernel)
  have hf49 := hts (.fieldLink RX2 49 "SnoringDukesModel" "came" "I") (by decide +kernel)
  have hf25 := hts (.fieldLink RX2 25 "SnoringDukesModel" "thrown" "I") (by decide +kernel)
  have hf16 := hts (.fieldLink RX2 16 "SnoringDukesModel" "side" "[I") (by decide +kernel)
  have hinX2 : ∀ wz ∈ wsX20, wz ∈ wsX2_coach := by decide +kernel
  have hl : lv_has ls 7 [(0, .ref oz), (1, .int (nI kk)), (2, .int xz), (3, .int yz)] := hl
  refine lv_iload_n hx hb dX2_coach_0 rfl (lv_at hl 1 rfl) ?_
  refine lv_iconst (v := nI 1) hx hb dX2_coach_1 (by decide) ?_
  refine lv_bipush (v := nI 20) hx hb dX2_coach_2 (by decide) ?_
  refine zK_si (av := [.int (nI kk), .int (nI 1), .int (nI 20)]) (rest := []) hF (m_isOf l G (nI kk) (nI 1) (nI 20)) (va_cwS 3 hts gX2_coach_X2_isOf rfl rfl rfl (by decide +kernel) ⟨Nat.le_of_ble_eq_true rfl, Nat.le_of_ble_eq_true rfl⟩) hK hP hD hS hA (isC := []) (isR := [0, 1, 2, 3, 4, 5]) (perm := [0, 1, 2, 3, 4, 5]) (wr := wm cI oz loz liz siz shz saz nz camez cz gz louz Dz Sz shdz shsz thz) (wN := wm cI oz loz liz siz shz saz nz camez cz gz louz Dz Sz shdz shsz thz) ⟨rfl, by decide, rfl, by decide, (fun _ _ hz => by cases hz), rfl, by decide⟩ [] rfl rfl hl.1 rfl (Nat.le_of_ble_eq_true rfl) dX2_coach_4 ⟨Nat.le_refl _, Nat.le_refl _⟩ (fun H locs hP hD hS => ?_)
  refine zN (nI 1) (y := (bI (isO (nI kk) (nI 1) (nI 20)))) (by rw [ho1]; rfl) ?_
  refine lv_if_eq (tgt := 36) hx hb dX2_coach_7 (by decide) (fun hc7 => ?_) (fun hc7 => ?_)
  · exact absurd hc7 (by decide)
  · skip
    have k7 : 0 < 1 := k0_ne (by omega) hc7
    refine lv_iload_n hx hb dX2_coach_10 rfl (lv_at hl 2 rfl) ?_
    refine lv_iconst (v := nI 0) hx hb dX2_coach_11 (by decide) ?_
    refine lv_sipush (v := nI 999) hx hb dX2_coach_12 (by decide) ?_
    refine zK_si (av := [.int xz, .int (nI 0), .int (nI 999)]) (rest := []) hF (m_isOf l G xz (nI 0) (nI 999)) (va_cwS 3 hts gX2_coach_X2_isOf rfl rfl rfl (by decide +kernel) ⟨Nat.le_of_ble_eq_true rfl, Nat.le_of_ble_eq_true rfl⟩) hK hP hD hS hA (isC := []) (isR := [0, 1, 2, 3, 4, 5]) (perm := [0, 1, 2, 3, 4, 5]) (wr := wm cI oz loz liz siz shz saz nz camez cz gz louz Dz Sz shdz shsz thz) (wN := wm cI oz loz liz siz shz saz nz camez cz gz louz Dz Sz shdz shsz thz) ⟨rfl, by decide, rfl, by decide, (fun _ _ hz => by cases hz), rfl, by decide⟩ [] rfl rfl hl.1 rfl (Nat.le_of_ble_eq_true rfl) dX2_coach_15 ⟨Nat.le_refl _, Nat.le_refl _⟩ (fun H locs hP hD hS => ?_)
    refine zN (nI 1) (y := (bI (isO xz (nI 0) (nI 999)))) (by rw [ho2]; rfl) ?_
    refine lv_if_eq (tgt := 36) hx hb dX2_coach_18 (by decide) (fun hc18 => ?_) (fun hc18 => ?_)
    · exact absurd hc18 (by decide)
    · skip
      have k18 : 0 < 1 := k0_ne (by omega) hc18
      refine lv_iload_n hx hb dX2_coach_21 rfl (lv_at hl 3 rfl) ?_
      refine lv_iconst (v := nI 0) hx hb dX2_coach_22 (by decide) ?_
      refine lv_sipush (v := nI 999) hx hb dX2_coach_23 (by decide) ?_
      refine zK_si (av := [.int yz, .int (nI 0), .int (nI 999)]) (rest := []) hF (m_isOf l G yz (nI 0) (nI 999)) (va_cwS 3 hts gX2_coach_X2_isOf rfl rfl rfl (by decide +kernel) ⟨Nat.le_of_ble_eq_true rfl, Nat.le_of_ble_eq_true rfl⟩) hK hP hD hS hA (isC := []) (isR := [0, 1, 2, 3, 4, 5]) (perm := [0, 1, 2, 3, 4, 5]) (wr := wm cI oz loz liz siz shz saz nz camez cz gz louz Dz Sz shdz shsz thz) (wN := wm cI oz loz liz siz shz saz nz camez cz gz louz Dz Sz shdz shsz thz) ⟨rfl, by decide, rfl, by decide, (fun _ _ hz => by cases hz), rfl, by decide⟩ [] rfl rfl hl.1 rfl (Nat.le_of_ble_eq_true rfl) dX2_coach_26 ⟨Nat.le_refl _, Nat.le_refl _⟩ (fun H locs hP hD hS => ?_)
      refine zN (nI 1) (y := (bI (isO yz (nI 0) (nI 999)))) (by rw [ho3]; rfl) ?_
      refine lv_if_eq (tgt := 36) hx hb dX2_coach_29 (by decide) (fun hc29 => ?_) (fun hc29 => ?_)
      · exact absurd hc29 (by decide)
      · skip
        have k29 : 0 < 1 := k0_ne (by omega) hc29
        refine lv_iconst (v := nI 1) hx hb dX2_coach_32 (by decide) ?_
        refine lv_goto (tgt := 37) hx hb dX2_coach_33 (by decide) ?_
        refine lv_istore (lv' := [(4, .int (nI 1)), (0, .ref oz), (1, .int (nI kk)), (2, .int xz), (3, .int yz)]) hx hb dX2_coach_37 hl (by decide) rfl (fun ls hl => ?_)
        refine lv_aload_n hx hb dX2_coach_39 rfl (lv_at hl 1 rfl) ?_
        refine lv_iload hx hb dX2_coach_40 (lv_at hl 0 rfl) ?_
        refine lv_if_ne (tgt := 49) hx hb dX2_coach_42 (by decide) (fun hc42 => ?_) (fun hc42 => ?_)
        · skip
          have k42 : 0 < 1 := k0_ne (by omega) hc42
          refine lv_aload_n hx hb dX2_coach_49 rfl (lv_at hl 1 rfl) ?_
          refine va_get (D := G) (ci := 2) (v := .int (nI nz)) (C := RX2) (T := TX2) (N := 10) hx hb hts hinX2 hown hK hP 0 rfl rfl 0 (by decide) hf29 (fun _ h9 => h9) rfl dX2_coach_50 ?_
          refine lv_iload_n hx hb dX2_coach_53 rfl (lv_at hl 2 rfl) ?_
          refine lv_iadd hx hb dX2_coach_54 ?_
          refine zN (nI (nz + kk)) (y := ((nI nz) + (nI kk))) (nI_add _ _) ?_
          refine lv_bipush (v := nI 63) hx hb dX2_coach_55 (by decide) ?_
          refine lv_icmp_gt (tgt := 72) hx hb dX2_coach_57 (by decide) (fun hc57 => ?_) (fun hc57 => ?_)
          · skip
            have k57 : 63 < (nz + kk) := k_lt (by omega) (by omega) hc57
            refine lv_iconst (v := nI 2) hx hb dX2_coach_72 (by decide) ?_
            refine lv_goto (tgt := 77) hx hb dX2_coach_73 (by decide) ?_
            refine va_put (D := G) (ci := 2) (v := .int (nI 2)) (ty := .int) (C := RX2) (T := TX2) (N := 10) hx hb hts hinX2 tyX2 tyX2_ok nmX2 hown hK hP hD hS 0 rfl rfl 9 (by decide) hf25 (fun _ h9 => h9) rfl (by decide +kernel) rfl rfl (Nat.le_of_ble_eq_true rfl) dX2_coach_77 (fun H locs hP hD hS => ?_)
            have hP : va_P G vwCl (wm cI oz loz liz siz shz saz nz camez cz gz louz Dz Sz shdz shsz (nI 2)) H := hP
            have hD : va_D A (wm cI oz loz liz siz shz saz nz camez cz gz louz Dz Sz shdz shsz (nI 2)) := hD
            refine lv_aload_n hx hb dX2_coach_80 rfl (lv_at hl 1 rfl) ?_
            refine va_get (D := G) (ci := 2) (v := .int (nI 2)) (C := RX2) (T := TX2) (N := 10) hx hb hts hinX2 hown hK hP 0 rfl rfl 9 (by decide) hf25 (fun _ h9 => h9) rfl dX2_coach_81 ?_
            refine lv_if_le (tgt := 89) hx hb dX2_coach_84 (by decide) (fun hc84 => ?_) (fun hc84 => ?_)
            · exact absurd hc84 (by decide)
            · skip
              have k84 : 0 < 2 := k0_nle (by omega) hc84
              refine lv_iconst (v := nI 0) hx hb dX2_coach_87 (by decide) ?_
              exact zE_i hF hr hlk hK hP hD hS dX2_coach_88
          · skip
            have k57 : (nz + kk) ≤ 63 := k_nlt (by omega) (by omega) hc57
            refine lv_aload_n hx hb dX2_coach_60 rfl (lv_at hl 1 rfl) ?_
            refine va_get (D := G) (ci := 2) (v := .int (nI camez)) (C := RX2) (T := TX2) (N := 10) hx hb hts hinX2 hown hK hP 0 rfl rfl 1 (by decide) hf49 (fun _ h9 => h9) rfl dX2_coach_61 ?_
            refine lv_iload_n hx hb dX2_coach_64 rfl (lv_at hl 2 rfl) ?_
            refine lv_iadd hx hb dX2_coach_65 ?_
            refine zN (nI (camez + kk)) (y := ((nI camez) + (nI kk))) (nI_add _ _) ?_
            refine lv_sipush (v := nI 500) hx hb dX2_coach_66 (by decide) ?_
            refine lv_icmp_le (tgt := 76) hx hb dX2_coach_69 (by decide) (fun hc69 => ?_) (fun hc69 => ?_)
            · skip
              have k69 : (camez + kk) ≤ 500 := k_le (by omega) (by omega) hc69
              exact absurd hfull (by omega)
            · skip
              have k69 : 500 < (camez + kk) := k_nle (by omega) (by omega) hc69
              refine lv_iconst (v := nI 2) hx hb dX2_coach_72 (by decide) ?_
              refine lv_goto (tgt := 77) hx hb dX2_coach_73 (by decide) ?_
              refine va_put (D := G) (ci := 2) (v := .int (nI 2)) (ty := .int) (C := RX2) (T := TX2) (N := 10) hx hb hts hinX2 tyX2 tyX2_ok nmX2 hown hK hP hD hS 0 rfl rfl 9 (by decide) hf25 (fun _ h9 => h9) rfl (by decide +kernel) rfl rfl (Nat.le_of_ble_eq_true rfl) dX2_coach_77 (fun H locs hP hD hS => ?_)
              have hP : va_P G vwCl (wm cI oz loz liz siz shz saz nz camez cz gz louz Dz Sz shdz shsz (nI 2)) H := hP
              have hD : va_D A (wm cI oz loz liz siz shz saz nz camez cz gz louz Dz Sz shdz shsz (nI 2)) := hD
              refine lv_aload_n hx hb dX2_coach_80 rfl (lv_at hl 1 rfl) ?_
              refine va_get (D := G) (ci := 2) (v := .int (nI 2)) (C := RX2) (T := TX2) (N := 10) hx hb hts hinX2 hown hK hP 0 rfl rfl 9 (by decide) hf25 (fun _ h9 => h9) rfl dX2_coach_81 ?_
              refine lv_if_le (tgt := 89) hx hb dX2_coach_84 (by decide) (fun hc84 => ?_) (fun hc84 => ?_)
              · exact absurd hc84 (by decide)
              · skip
                have k84 : 0 < 2 := k0_nle (by omega) hc84
                refine lv_iconst (v := nI 0) hx hb dX2_coach_87 (by decide) ?_
                exact zE_i hF hr hlk hK hP hD hS dX2_coach_88
        · exact absurd hc42 (by decide)
set_option maxHeartbeats 4000000 in
set_option maxRecDepth 100000 in
theorem m_coach_0 (l : Launch) (G : va_G) (cI : ClassId) (oz loz liz siz shz saz : Nat) (nz camez : Nat) (cz gz : Int32) (louz Dz Sz shdz shsz : Fn) (thz : Int32) (hn : nz ≤ 63) (hc9 : camez ≤ 500) (hS1 : okS Sz) (hD1 : okD nz Dz) (kk : Nat) (xz yz : Int32) (ho1 : isO (nI kk) (nI 1) (nI 20) = true) (ho2 : isO xz (nI 0) (nI 999) = true) (ho3 : isO yz (nI 0) (nI 999) = true) (hk9 : kk ≤ 20) (hk1 : 1 ≤ kk) (hn1 : nz + kk ≤ 63) (hc1 : camez + kk ≤ 500) : zC_i l yX2_coach wsX2_coach ({ frames := 2, cells := 0, slots := 0, locals := 43 }) G [(cI, .int)] (wm cI oz loz liz siz shz saz nz camez cz gz louz Dz Sz shdz shsz thz) (wm cI oz loz liz siz shz saz (nz + kk) (camez + kk) (wc (allF (nz + kk - 1) (vM (lmL louz camez xz yz kk) (lmD Dz nz camez kk) (zfF (nz + kk) (lmS Sz nz kk)) (nz + kk) cz gz))) (wg (allF (nz + kk - 1) (vM (lmL louz camez xz yz kk) (lmD Dz nz camez kk) (zfF (nz + kk) (lmS Sz nz kk)) (nz + kk) cz gz))) (lmL louz camez xz yz kk) (wD (allF (nz + kk - 1) (vM (lmL louz camez xz yz kk) (lmD Dz nz camez kk) (zfF (nz + kk) (lmS Sz nz kk)) (nz + kk) cz gz))) (wS (allF (nz + kk - 1) (vM (lmL louz camez xz yz kk) (lmD Dz nz camez kk) (zfF (nz + kk) (lmS Sz nz kk)) (nz + kk) cz gz))) shdz shsz (nI 0)) [.ref oz, .int (nI kk), .int xz, .int yz] (nI (nz + kk - 1)) := by
  refine zB_i (cc := cX2_coach) (maxL := 7) (ret := (some .int)) (by decide) rfl (Nat.le_of_ble_eq_true rfl) ?_
  intro p e s m args below meth c0 A hF hr hlk hK hA hP hD hS ls hl
  have hx := hF.1
  have hb := hF.2.1
  have hown := hF.2.2.2.1
  have hts := hF.2.2.2.2
  have hf29 := hts (.fieldLink RX2 29 "SnoringDukesModel" "many" "I") (by decide +kernel)
  have hf49 := hts (.fieldLink RX2 49 "SnoringDukesModel" "came" "I") (by decide +kernel)
  have hf25 := hts (.fieldLink RX2 25 "SnoringDukesModel" "thrown" "I") (by decide +kernel)
  have hf16 := hts (.fieldLink RX2 16 "SnoringDukesModel" "side" "[I") (by decide +kernel)
  have hinX2 : ∀ wz ∈ wsX20, wz ∈ wsX2_coach := by decide +kernel
  have hl : lv_has ls 7 [(0, .ref oz), (1, .int (nI kk)), (2, .int xz), (3, .int yz)] := hl
  refine lv_iload_n hx hb dX2_coach_0 rfl (lv_at hl 1 rfl) ?_
  refine lv_iconst (v := nI 1) hx hb dX2_coach_1 (by decide) ?_
  refine lv_bipush (v := nI 20) hx hb dX2_coach_2 (by decide) ?_
  refine zK_si (av := [.int (nI kk), .int (nI 1), .int (nI 20)]) (rest := []) hF (m_isOf l G (nI kk) (nI 1) (nI 20)) (va_cwS 3 hts gX2_coach_X2_isOf rfl rfl rfl (by decide +kernel) ⟨Nat.le_of_ble_eq_true rfl, Nat.le_of_ble_eq_true rfl⟩) hK hP hD hS hA (isC := []) (isR := [0, 1, 2, 3, 4, 5]) (perm := [0, 1, 2, 3, 4, 5]) (wr := wm cI oz loz liz siz shz saz nz camez cz gz louz Dz Sz shdz shsz thz) (wN := wm cI oz loz liz siz shz saz nz camez cz gz louz Dz Sz shdz shsz thz) ⟨rfl, by decide, rfl, by decide, (fun _ _ hz => by cases hz), rfl, by decide⟩ [] rfl rfl hl.1 rfl (Nat.le_of_ble_eq_true rfl) dX2_coach_4 ⟨Nat.le_refl _, Nat.le_refl _⟩ (fun H locs hP hD hS => ?_)
  refine zN (nI 1) (y := (bI (isO (nI kk) (nI 1) (nI 20)))) (by rw [ho1]; rfl) ?_
  refine lv_if_eq (tgt := 36) hx hb dX2_coach_7 (by decide) (fun hc7 => ?_) (fun hc7 => ?_)
  · exact absurd hc7 (by decide)
  · skip
    have k7 : 0 < 1 := k0_ne (by omega) hc7
    refine lv_iload_n hx hb dX2_coach_10 rfl (lv_at hl 2 rfl) ?_
    refine lv_iconst (v := nI 0) hx hb dX2_coach_11 (by decide) ?_
    refine lv_sipush (v := nI 999) hx hb dX2_coach_12 (by decide) ?_
    refine zK_si (av := [.int xz, .int (nI 0), .int (nI 999)]) (rest := []) hF (m_isOf l G xz (nI 0) (nI 999)) (va_cwS 3 hts gX2_coach_X2_isOf rfl rfl rfl (by decide +kernel) ⟨Nat.le_of_ble_eq_true rfl, Nat.le_of_ble_eq_true rfl⟩) hK hP hD hS hA (isC := []) (isR := [0, 1, 2, 3, 4, 5]) (perm := [0, 1, 2, 3, 4, 5]) (wr := wm cI oz loz liz siz shz saz nz camez cz gz louz Dz Sz shdz shsz thz) (wN := wm cI oz loz liz siz shz saz nz camez cz gz louz Dz Sz shdz shsz thz) ⟨rfl, by decide, rfl, by decide, (fun _ _ hz => by cases hz), rfl, by decide⟩ [] rfl rfl hl.1 rfl (Nat.le_of_ble_eq_true rfl) dX2_coach_15 ⟨Nat.le_refl _, Nat.le_refl _⟩ (fun H locs hP hD hS => ?_)
    refine zN (nI 1) (y := (bI (isO xz (nI 0) (nI 999)))) (by rw [ho2]; rfl) ?_
    refine lv_if_eq (tgt := 36) hx hb dX2_coach_18 (by decide) (fun hc18 => ?_) (fun hc18 => ?_)
    · exact absurd hc18 (by decide)
    · skip
      have k18 : 0 < 1 := k0_ne (by omega) hc18
      refine lv_iload_n hx hb dX2_coach_21 rfl (lv_at hl 3 rfl) ?_
      refine lv_iconst (v := nI 0) hx hb dX2_coach_22 (by decide) ?_
      refine lv_sipush (v := nI 999) hx hb dX2_coach_23 (by decide) ?_
      refine zK_si (av := [.int yz, .int (nI 0), .int (nI 999)]) (rest := []) hF (m_isOf l G yz (nI 0) (nI 999)) (va_cwS 3 hts gX2_coach_X2_isOf rfl rfl rfl (by decide +kernel) ⟨Nat.le_of_ble_eq_true rfl, Nat.le_of_ble_eq_true rfl⟩) hK hP hD hS hA (isC := []) (isR := [0, 1, 2, 3, 4, 5]) (perm := [0, 1, 2, 3, 4, 5]) (wr := wm cI oz loz liz siz shz saz nz camez cz gz louz Dz Sz shdz shsz thz) (wN := wm cI oz loz liz siz shz saz nz camez cz gz louz Dz Sz shdz shsz thz) ⟨rfl, by decide, rfl, by decide, (fun _ _ hz => by cases hz), rfl, by decide⟩ [] rfl rfl hl.1 rfl (Nat.le_of_ble_eq_true rfl) dX2_coach_26 ⟨Nat.le_refl _, Nat.le_refl _⟩ (fun H locs hP hD hS => ?_)
      refine zN (nI 1) (y := (bI (isO yz (nI 0) (nI 999)))) (by rw [ho3]; rfl) ?_
      refine lv_if_eq (tgt := 36) hx hb dX2_coach_29 (by decide) (fun hc29 => ?_) (fun hc29 => ?_)
      · exact absurd hc29 (by decide)
      · skip
        have k29 : 0 < 1 := k0_ne (by omega) hc29
        refine lv_iconst (v := nI 1) hx hb dX2_coach_32 (by decide) ?_
        refine lv_goto (tgt := 37) hx hb dX2_coach_33 (by decide) ?_
        refine lv_istore (lv' := [(4, .int (nI 1)), (0, .ref oz), (1, .int (nI kk)), (2, .int xz), (3, .int yz)]) hx hb dX2_coach_37 hl (by decide) rfl (fun ls hl => ?_)
        refine lv_aload_n hx hb dX2_coach_39 rfl (lv_at hl 1 rfl) ?_
        refine lv_iload hx hb dX2_coach_40 (lv_at hl 0 rfl) ?_
        refine lv_if_ne (tgt := 49) hx hb dX2_coach_42 (by decide) (fun hc42 => ?_) (fun hc42 => ?_)
        · skip
          have k42 : 0 < 1 := k0_ne (by omega) hc42
          refine lv_aload_n hx hb dX2_coach_49 rfl (lv_at hl 1 rfl) ?_
          refine va_get (D := G) (ci := 2) (v := .int (nI nz)) (C := RX2) (T := TX2) (N := 10) hx hb hts hinX2 hown hK hP 0 rfl rfl 0 (by decide) hf29 (fun _ h9 => h9) rfl dX2_coach_50 ?_
          refine lv_iload_n hx hb dX2_coach_53 rfl (lv_at hl 2 rfl) ?_
          refine lv_iadd hx hb dX2_coach_54 ?_
          refine zN (nI (nz + kk)) (y := ((nI nz) + (nI kk))) (nI_add _ _) ?_
          refine lv_bipush (v := nI 63) hx hb dX2_coach_55 (by decide) ?_
          refine lv_icmp_gt (tgt := 72) hx hb dX2_coach_57 (by decide) (fun hc57 => ?_) (fun hc57 => ?_)
          · skip
            have k57 : 63 < (nz + kk) := k_lt (by omega) (by omega) hc57
            exact absurd k57 (by omega)
          · skip
            have k57 : (nz + kk) ≤ 63 := k_nlt (by omega) (by omega) hc57
            refine lv_aload_n hx hb dX2_coach_60 rfl (lv_at hl 1 rfl) ?_
            refine va_get (D := G) (ci := 2) (v := .int (nI camez)) (C := RX2) (T := TX2) (N := 10) hx hb hts hinX2 hown hK hP 0 rfl rfl 1 (by decide) hf49 (fun _ h9 => h9) rfl dX2_coach_61 ?_
            refine lv_iload_n hx hb dX2_coach_64 rfl (lv_at hl 2 rfl) ?_
            refine lv_iadd hx hb dX2_coach_65 ?_
            refine zN (nI (camez + kk)) (y := ((nI camez) + (nI kk))) (nI_add _ _) ?_
            refine lv_sipush (v := nI 500) hx hb dX2_coach_66 (by decide) ?_
            refine lv_icmp_le (tgt := 76) hx hb dX2_coach_69 (by decide) (fun hc69 => ?_) (fun hc69 => ?_)
            · skip
              have k69 : (camez + kk) ≤ 500 := k_le (by omega) (by omega) hc69
              refine lv_iconst (v := nI 0) hx hb dX2_coach_76 (by decide) ?_
              refine va_put (D := G) (ci := 2) (v := .int (nI 0)) (ty := .int) (C := RX2) (T := TX2) (N := 10) hx hb hts hinX2 tyX2 tyX2_ok nmX2 hown hK hP hD hS 0 rfl rfl 9 (by decide) hf25 (fun _ h9 => h9) rfl (by decide +kernel) rfl rfl (Nat.le_of_ble_eq_true rfl) dX2_coach_77 (fun H locs hP hD hS => ?_)
              have hP : va_P G vwCl (wm cI oz loz liz siz shz saz nz camez cz gz louz Dz Sz shdz shsz (nI 0)) H := hP
              have hD : va_D A (wm cI oz loz liz siz shz saz nz camez cz gz louz Dz Sz shdz shsz (nI 0)) := hD
              refine lv_aload_n hx hb dX2_coach_80 rfl (lv_at hl 1 rfl) ?_
              refine va_get (D := G) (ci := 2) (v := .int (nI 0)) (C := RX2) (T := TX2) (N := 10) hx hb hts hinX2 hown hK hP 0 rfl rfl 9 (by decide) hf25 (fun _ h9 => h9) rfl dX2_coach_81 ?_
              refine lv_if_le (tgt := 89) hx hb dX2_coach_84 (by decide) (fun hc84 => ?_) (fun hc84 => ?_)
              · skip
                have k84 : 0 = 0 := k0_le (by omega) hc84
                refine lv_iconst (v := nI 0) hx hb dX2_coach_89 (by decide) ?_
                refine lv_istore (lv' := [(5, .int (nI 0)), (4, .int (nI 1)), (0, .ref oz), (1, .int (nI kk)), (2, .int xz), (3, .int yz)]) hx hb dX2_coach_90 hl (by decide) rfl (fun ls hl => ?_)
                have hP : va_P G vwCl (wm cI oz loz liz siz shz saz (nz + 0) (camez + 0) cz gz (lmL louz camez xz yz 0) (lmD Dz nz camez 0) (lmS Sz nz 0) shdz shsz (nI 0)) H := hP
                have hD : va_D A (wm cI oz loz liz siz shz saz (nz + 0) (camez + 0) cz gz (lmL louz camez xz yz 0) (lmD Dz nz camez 0) (lmS Sz nz 0) shdz shsz (nI 0)) := hD
                have loop : ∀ (f9 : Nat) (iz : Nat), (iz ≤ kk) → kk - iz < f9 → ∀ (H : Heap) (locs : List Loc) (ls : Array Slot), va_P G vwCl (wm cI oz loz liz siz shz saz (nz + iz) (camez + iz) cz gz (lmL louz camez xz yz iz) (lmD Dz nz camez iz) (lmS Sz nz iz) shdz shsz (nI 0)) H → va_D A (wm cI oz loz liz siz shz saz (nz + iz) (camez + iz) cz gz (lmL louz camez xz yz iz) (lmD Dz nz camez iz) (lmS Sz nz iz) shdz shsz (nI 0)) → va_S A s.heap H locs → lv_has ls 7 [(0, .ref oz), (1, .int (nI kk)), (2, .int xz), (3, .int yz), (5, .int (nI iz))] → W p l e ({ frames := 2, cells := 0, slots := 0, locals := 43 }) s m args below meth c0 H locs 0 0 (zQ_i below G [(cI, .int)] (wm cI oz loz liz siz shz saz (nz + kk) (camez + kk) (wc (allF (nz + kk - 1) (vM (lmL louz camez xz yz kk) (lmD Dz nz camez kk) (zfF (nz + kk) (lmS Sz nz kk)) (nz + kk) cz gz))) (wg (allF (nz + kk - 1) (vM (lmL louz camez xz yz kk) (lmD Dz nz camez kk) (zfF (nz + kk) (lmS Sz nz kk)) (nz + kk) cz gz))) (lmL louz camez xz yz kk) (wD (allF (nz + kk - 1) (vM (lmL louz camez xz yz kk) (lmD Dz nz camez kk) (zfF (nz + kk) (lmS Sz nz kk)) (nz + kk) cz gz))) (wS (allF (nz + kk - 1) (vM (lmL louz camez xz yz kk) (lmD Dz nz camez kk) (zfF (nz + kk) (lmS Sz nz kk)) (nz + kk) cz gz))) shdz shsz (nI 0)) (nI (nz + kk - 1)) A args s) (F0 m 92 ls []) := by
                  intro f9
                  induction f9 with
                  | zero => intro iz hi hf; exact absurd hf (Nat.not_lt_zero _)
                  | succ f9 ih =>
                    intro iz hi hf H locs ls hP hD hS hl
                    refine lv_iload hx hb dX2_coach_92 (lv_at hl 4 rfl) ?_
                    refine lv_iload_n hx hb dX2_coach_94 rfl (lv_at hl 1 rfl) ?_
                    refine lv_icmp_ge (tgt := 118) hx hb dX2_coach_95 (by decide) (fun hc95 => ?_) (fun hc95 => ?_)
                    · skip
                      have k95 : kk ≤ iz := k_le (by omega) (by omega) hc95
                      obtain rfl : kk = iz := by omega
                      have hS2 : okS (lmS Sz nz kk) := lmS_ok hS1 kk
                      have hD2 : okD (nz + kk) (lmD Dz nz camez kk) := lmD_ok hD1 kk (by omega)
                      have hl : lv_has ls 7 [(0, .ref oz)] := lv_sub hl [0] rfl
                      refine lv_iconst (v := nI 0) hx hb dX2_coach_118 (by decide) ?_
                      refine lv_istore (lv' := [(5, .int (nI 0)), (0, .ref oz)]) hx hb dX2_coach_119 hl (by decide) rfl (fun ls hl => ?_)
                      have e0 : lmS Sz nz kk = zfF 0 (lmS Sz nz kk) := (zfF_0 _).symm
                      have hP : va_P G vwCl (wm cI oz loz liz siz shz saz (nz + kk) (camez + kk) cz gz (lmL louz camez xz yz kk) (lmD Dz nz camez kk) (zfF 0 (lmS Sz nz kk)) shdz shsz (nI 0)) H := by rw [zfF_0]; exact hP
                      have hD : va_D A (wm cI oz loz liz siz shz saz (nz + kk) (camez + kk) cz gz (lmL louz camez xz yz kk) (lmD Dz nz camez kk) (zfF 0 (lmS Sz nz kk)) shdz shsz (nI 0)) := by rw [zfF_0]; exact hD
                      have loop2 : ∀ (f9 : Nat) (i2 : Nat), (i2 ≤ nz + kk) → nz + kk - i2 < f9 → ∀ (H : Heap) (locs : List Loc) (ls : Array Slot), va_P G vwCl (wm cI oz loz liz siz shz saz (nz + kk) (camez + kk) cz gz (lmL louz camez xz yz kk) (lmD Dz nz camez kk) (zfF i2 (lmS Sz nz kk)) shdz shsz (nI 0)) H → va_D A (wm cI oz loz liz siz shz saz (nz + kk) (camez + kk) cz gz (lmL louz camez xz yz kk) (lmD Dz nz camez kk) (zfF i2 (lmS Sz nz kk)) shdz shsz (nI 0)) → va_S A s.heap H locs → lv_has ls 7 [(0, .ref oz), (5, .int (nI i2))] → W p l e ({ frames := 2, cells := 0, slots := 0, locals := 43 }) s m args below meth c0 H locs 0 0 (zQ_i below G [(cI, .int)] (wm cI oz loz liz siz shz saz (nz + kk) (camez + kk) (wc (allF (nz + kk - 1) (vM (lmL louz camez xz yz kk) (lmD Dz nz camez kk) (zfF (nz + kk) (lmS Sz nz kk)) (nz + kk) cz gz))) (wg (allF (nz + kk - 1) (vM (lmL louz camez xz yz kk) (lmD Dz nz camez kk) (zfF (nz + kk) (lmS Sz nz kk)) (nz + kk) cz gz))) (lmL louz camez xz yz kk) (wD (allF (nz + kk - 1) (vM (lmL louz camez xz yz kk) (lmD Dz nz camez kk) (zfF (nz + kk) (lmS Sz nz kk)) (nz + kk) cz gz))) (wS (allF (nz + kk - 1) (vM (lmL louz camez xz yz kk) (lmD Dz nz camez kk) (zfF (nz + kk) (lmS Sz nz kk)) (nz + kk) cz gz))) shdz shsz (nI 0)) (nI (nz + kk - 1)) A args s) (F0 m 121 ls []) := by
                        intro f9
                        induction f9 with
                        | zero => intro i2 hi2 hf; exact absurd hf (Nat.not_lt_zero _)
                        | succ f9 ih =>
                          intro i2 hi2 hf H locs ls hP hD hS hl
                          refine lv_iload hx hb dX2_coach_121 (lv_at hl 1 rfl) ?_
                          refine lv_aload_n hx hb dX2_coach_123 rfl (lv_at hl 0 rfl) ?_
                          refine va_get (D := G) (ci := 2) (v := .int (nI (nz + kk))) (C := RX2) (T := TX2) (N := 10) hx hb hts hinX2 hown hK hP 0 rfl rfl 0 (by decide) hf29 (fun _ h9 => h9) rfl dX2_coach_124 ?_
                          refine lv_icmp_ge (tgt := 144) hx hb dX2_coach_127 (by decide) (fun hc127 => ?_) (fun hc127 => ?_)
                          · skip
                            have k127 : (nz + kk) ≤ i2 := k_le (by omega) (by omega) hc127
                            have e2 : i2 = nz + kk := by omega
                            subst e2
                            have hl : lv_has ls 7 [(0, .ref oz)] := lv_sub hl [0] rfl
                            have hS3 : okS (zfF (nz + kk) (lmS Sz nz kk)) := okS_zf hS2 _
                            refine lv_aload_n hx hb dX2_coach_144 rfl (lv_at hl 0 rfl) ?_
                            refine va_get (D := G) (ci := 2) (v := .int (nI (nz + kk))) (C := RX2) (T := TX2) (N := 10) hx hb hts hinX2 hown hK hP 0 rfl rfl 0 (by decide) hf29 (fun _ h9 => h9) rfl dX2_coach_145 ?_
                            refine lv_iconst (v := nI 1) hx hb dX2_coach_148 (by decide) ?_
                            refine lv_isub hx hb dX2_coach_149 ?_
                            refine zN (nI ((nz + kk) - 1)) (y := ((nI (nz + kk)) - (nI 1))) (pk_sub (by omega)) ?_
                            refine lv_istore (lv' := [(5, .int (nI ((nz + kk) - 1))), (0, .ref oz)]) hx hb dX2_coach_150 hl (by decide) rfl (fun ls hl => ?_)
                            have loop3 : ∀ (f9 : Nat) (D1 : Fn) (S1 : Fn) (x1 : Int32) (y1 : Int32) (b1 : Nat), (okS S1) → (okD (nz + kk) D1) → (allF b1 (vM (lmL louz camez xz yz kk) D1 S1 (nz + kk) x1 y1) = allF (nz + kk - 1) (vM (lmL louz camez xz yz kk) (lmD Dz nz camez kk) (zfF (nz + kk) (lmS Sz nz kk)) (nz + kk) cz gz)) → (b1 < nz + kk) → b1 < f9 → ∀ (H : Heap) (locs : List Loc) (ls : Array Slot), va_P G vwCl (wm cI oz loz liz siz shz saz (nz + kk) (camez + kk) x1 y1 (lmL louz camez xz yz kk) D1 S1 shdz shsz (nI 0)) H → va_D A (wm cI oz loz liz siz shz saz (nz + kk) (camez + kk) x1 y1 (lmL louz camez xz yz kk) D1 S1 shdz shsz (nI 0)) → va_S A s.heap H locs → lv_has ls 7 [(0, .ref oz), (5, .int (nI b1))] → W p l e ({ frames := 2, cells := 0, slots := 0, locals := 43 }) s m args below meth c0 H locs 0 0 (zQ_i below G [(cI, .int)] (wm cI oz loz liz siz shz saz (nz + kk) (camez + kk) (wc (allF (nz + kk - 1) (vM (lmL louz camez xz yz kk) (lmD Dz nz camez kk) (zfF (nz + kk) (lmS Sz nz kk)) (nz + kk) cz gz))) (wg (allF (nz + kk - 1) (vM (lmL louz camez xz yz kk) (lmD Dz nz camez kk) (zfF (nz + kk) (lmS Sz nz kk)) (nz + kk) cz gz))) (lmL louz camez xz yz kk) (wD (allF (nz + kk - 1) (vM (lmL louz camez xz yz kk) (lmD Dz nz camez kk) (zfF (nz + kk) (lmS Sz nz kk)) (nz + kk) cz gz))) (wS (allF (nz + kk - 1) (vM (lmL louz camez xz yz kk) (lmD Dz nz camez kk) (zfF (nz + kk) (lmS Sz nz kk)) (nz + kk) cz gz))) shdz shsz (nI 0)) (nI (nz + kk - 1)) A args s) (F0 m 152 ls []) := by
                              intro f9
                              induction f9 with
                              | zero => intro D1 S1 x1 y1 b1 hS4 hD4 hr9 hb1 hf; exact absurd hf (Nat.not_lt_zero _)
                              | succ f9 ih =>
                                intro D1 S1 x1 y1 b1 hS4 hD4 hr9 hb1 hf H locs ls hP hD hS hl
                                refine lv_iload hx hb dX2_coach_152 (lv_at hl 1 rfl) ?_
                                refine lv_if_le (tgt := 178) hx hb dX2_coach_154 (by decide) (fun hc154 => ?_) (fun hc154 => ?_)
                                · skip
                                  have k154 : b1 = 0 := k0_le (by omega) hc154
                                  refine lv_aload_n hx hb dX2_coach_178 rfl (lv_at hl 0 rfl) ?_
                                  refine va_get (D := G) (ci := 2) (v := .int (nI (nz + kk))) (C := RX2) (T := TX2) (N := 10) hx hb hts hinX2 hown hK hP 0 rfl rfl 0 (by decide) hf29 (fun _ h9 => h9) rfl dX2_coach_179 ?_
                                  refine lv_iconst (v := nI 1) hx hb dX2_coach_182 (by decide) ?_
                                  refine lv_isub hx hb dX2_coach_183 ?_
                                  refine zN (nI ((nz + kk) - 1)) (y := ((nI (nz + kk)) - (nI 1))) (pk_sub (by omega)) ?_
                                  obtain rfl : 0 = b1 := k154.symm
                                  rw [← hr9]
                                  exact zE_i hF hr hlk hK hP hD hS dX2_coach_184
                                · skip
                                  have k154 : 0 < b1 := k0_nle (by omega) hc154
                                  have ze := eld_lt (S := S1) (b := b1) k154
                                  refine lv_aload_n hx hb dX2_coach_157 rfl (lv_at hl 0 rfl) ?_
                                  refine lv_aload_n hx hb dX2_coach_158 rfl (lv_at hl 0 rfl) ?_
                                  refine lv_iload hx hb dX2_coach_159 (lv_at hl 1 rfl) ?_
                                  refine zK_vi (As := [.int (nI b1)]) (rest := [.ref oz]) hF (m_elder l G cI oz loz liz siz shz saz (nz + kk) (camez + kk) x1 y1 (lmL louz camez xz yz kk) D1 S1 shdz shsz (nI 0) (by omega) (by omega) hS4 hD4 b1 (by omega) (by omega)) (cwV 1 hts gX2_coach_X2_elder rfl rfl rfl (by decide +kernel) ⟨Nat.le_of_ble_eq_true rfl, Nat.le_of_ble_eq_true rfl⟩) hK hP hD hS hA (ci := 2) (q0 := 0) rfl rfl rfl (isC := [0, 1, 2, 3, 4, 5]) (isR := []) (perm := [0, 1, 2, 3, 4, 5]) (wr := []) (wN := wm cI oz loz liz siz shz saz (nz + kk) (camez + kk) x1 y1 (lmL louz camez xz yz kk) D1 S1 shdz shsz (nI 0)) ⟨rfl, by decide, rfl, rfl, (fun _ hz => by cases hz), rfl, by decide⟩ [0] rfl rfl hl.1 rfl (Nat.le_of_ble_eq_true rfl) dX2_coach_161 ⟨Nat.le_refl _, Nat.le_refl _⟩ (fun H locs hP hD hS => ?_)
                                  refine lv_iload hx hb dX2_coach_164 (lv_at hl 1 rfl) ?_
                                  refine lv_iconst (v := nI 0) hx hb dX2_coach_166 (by decide) ?_
                                  refine zK_vi (As := [.int (nI (eld S1 b1)), .int (nI b1), .int (nI 0)]) (rest := []) hF (m_joins l G cI oz loz liz siz shz saz (nz + kk) (camez + kk) x1 y1 (lmL louz camez xz yz kk) D1 S1 shdz shsz (nI 0) (by omega) (by omega) hS4 hD4 (eld S1 b1) b1 (by omega) (by omega) false) (cwV 3 hts gX2_coach_X2_joins rfl rfl rfl (by decide +kernel) ⟨Nat.le_of_ble_eq_true rfl, Nat.le_of_ble_eq_true rfl⟩) hK hP hD hS hA (ci := 2) (q0 := 0) rfl rfl rfl (isC := [0, 1, 2, 3, 4, 5]) (isR := []) (perm := [0, 1, 2, 3, 4, 5]) (wr := []) (wN := wm cI oz loz liz siz shz saz (nz + kk) (camez + kk) (wc (joinF false (vM (lmL louz camez xz yz kk) D1 S1 (nz + kk) x1 y1) (eld S1 b1) b1)) (wg (joinF false (vM (lmL louz camez xz yz kk) D1 S1 (nz + kk) x1 y1) (eld S1 b1) b1)) (lmL louz camez xz yz kk) (wD (joinF false (vM (lmL louz camez xz yz kk) D1 S1 (nz + kk) x1 y1) (eld S1 b1) b1)) (wS (joinF false (vM (lmL louz camez xz yz kk) D1 S1 (nz + kk) x1 y1) (eld S1 b1) b1)) shdz shsz (nI 0)) ⟨rfl, by decide, rfl, rfl, (fun _ hz => by cases hz), rfl, by decide⟩ [0] rfl rfl hl.1 rfl (Nat.le_of_ble_eq_true rfl) dX2_coach_167 ⟨Nat.le_refl _, Nat.le_refl _⟩ (fun H locs hP hD hS => ?_)
                                  obtain ⟨D10, S10, c10, g10, hu10, hz10, hy10⟩ := joinM_ex false (lou := lmL louz camez xz yz kk) (c := x1) (g := y1) (e := eld S1 b1) (j := b1) hS4 hD4 (by omega) (by omega) (by omega)
                                  have hP : va_P G vwCl (wm cI oz loz liz siz shz saz (nz + kk) (camez + kk) c10 g10 (lmL louz camez xz yz kk) D10 S10 shdz shsz (nI 0)) H := by have qz := hP; rw [hu10] at qz; exact qz
                                  have hD : va_D A (wm cI oz loz liz siz shz saz (nz + kk) (camez + kk) c10 g10 (lmL louz camez xz yz kk) D10 S10 shdz shsz (nI 0)) := by have qz := hD; rw [hu10] at qz; exact qz
                                  refine lv_istore (lv' := [(6, .int (bI (jc false (vM (lmL louz camez xz yz kk) D1 S1 (nz + kk) x1 y1) (eld S1 b1) b1))), (0, .ref oz), (5, .int (nI b1))]) hx hb dX2_coach_170 hl (by decide) rfl (fun ls hl => ?_)
                                  refine lv_iinc (v := nI (b1 - 1)) (lv' := [(5, .int (nI (b1 - 1))), (6, .int (bI (jc false (vM (lmL louz camez xz yz kk) D1 S1 (nz + kk) x1 y1) (eld S1 b1) b1))), (0, .ref oz)]) hx hb dX2_coach_172 hl (k := 2) rfl (z_dec k154) (by decide) rfl (fun ls hl => ?_)
                                  refine lv_goto (tgt := 152) hx hb dX2_coach_175 (by decide) ?_
                                  exact ih D10 S10 c10 g10 (b1 - 1) hz10 hy10 (by rw [← hu10, ← hr9]; obtain ⟨b2, rfl⟩ : ∃ kz, b1 = kz + 1 := ⟨b1 - 1, by omega⟩; rfl) (by omega) (by omega) _ _ _ hP hD hS (lv_sub hl [2, 0] rfl)
                            exact loop3 (nz + kk + 1) (lmD Dz nz camez kk) (zfF (nz + kk) (lmS Sz nz kk)) cz gz (nz + kk - 1) hS3 hD2 rfl (by omega) (by omega) _ _ _ hP hD hS (lv_sub hl [1, 0] rfl)
                          · skip
                            have k127 : i2 < (nz + kk) := k_nle (by omega) (by omega) hc127
                            refine lv_aload_n hx hb dX2_coach_130 rfl (lv_at hl 0 rfl) ?_
                            refine va_get (D := G) (ci := 2) (v := .ref siz) (C := RX2) (T := TX2) (N := 10) hx hb hts hinX2 hown hK hP 0 rfl rfl 6 (by decide) hf16 (fun _ h9 => h9) rfl dX2_coach_131 ?_
                            refine lv_iload hx hb dX2_coach_134 (lv_at hl 1 rfl) ?_
                            refine lv_iconst (v := nI 0) hx hb dX2_coach_136 (by decide) ?_
                            refine zA_st (x := nI 0) hx hb hK hP hD hS 3 0 rfl rfl (by omega) (by decide) dX2_coach_137 (fun H locs hP hD hS => ?_)
                            have hP : va_P G vwCl (wm cI oz loz liz siz shz saz (nz + kk) (camez + kk) cz gz (lmL louz camez xz yz kk) (lmD Dz nz camez kk) (upd (zfF i2 (lmS Sz nz kk)) i2 (nI 0)) shdz shsz (nI 0)) H := hP
                            have hD : va_D A (wm cI oz loz liz siz shz saz (nz + kk) (camez + kk) cz gz (lmL louz camez xz yz kk) (lmD Dz nz camez kk) (upd (zfF i2 (lmS Sz nz kk)) i2 (nI 0)) shdz shsz (nI 0)) := hD
                            have hP : va_P G vwCl (wm cI oz loz liz siz shz saz (nz + kk) (camez + kk) cz gz (lmL louz camez xz yz kk) (lmD Dz nz camez kk) (zfF (i2 + 1) (lmS Sz nz kk)) shdz shsz (nI 0)) H := by have qz := hP; rw [zfF_succ] at qz; exact qz
                            have hD : va_D A (wm cI oz loz liz siz shz saz (nz + kk) (camez + kk) cz gz (lmL louz camez xz yz kk) (lmD Dz nz camez kk) (zfF (i2 + 1) (lmS Sz nz kk)) shdz shsz (nI 0)) := by have qz := hD; rw [zfF_succ] at qz; exact qz
                            refine lv_iinc (v := nI (i2 + 1)) (lv' := [(5, .int (nI (i2 + 1))), (0, .ref oz)]) hx hb dX2_coach_138 hl (k := 1) rfl (nI_1 _) (by decide) rfl (fun ls hl => ?_)
                            refine lv_goto (tgt := 121) hx hb dX2_coach_141 (by decide) ?_
                            exact ih (i2 + 1) (by omega) (by omega) _ _ _ hP hD hS (lv_sub hl [1, 0] rfl)
                      exact loop2 (nz + kk + 1) 0 (by omega) (by omega) _ _ _ hP hD hS (lv_sub hl [1, 0] rfl)
                    · skip
                      have k95 : iz < kk := k_nle (by omega) (by omega) hc95
                      refine lv_aload_n hx hb dX2_coach_98 rfl (lv_at hl 0 rfl) ?_
                      refine lv_iload_n hx hb dX2_coach_99 rfl (lv_at hl 2 rfl) ?_
                      refine lv_iload hx hb dX2_coach_100 (lv_at hl 4 rfl) ?_
                      refine lv_iload_n hx hb dX2_coach_102 rfl (lv_at hl 3 rfl) ?_
                      refine lv_imul hx hb dX2_coach_103 ?_
                      refine lv_iadd hx hb dX2_coach_104 ?_
                      refine lv_sipush (v := nI 1000) hx hb dX2_coach_105 (by decide) ?_
                      refine lv_irem hx hb dX2_coach_108 (by decide) ?_
                      refine zK_vv (As := [.int ((xz + ((nI iz) * yz)) - (xz + ((nI iz) * yz)) / (nI 1000) * (nI 1000))]) (rest := []) hF (m_lays l G cI oz loz liz siz shz saz (nz + iz) (camez + iz) cz gz (lmL louz camez xz yz iz) (lmD Dz nz camez iz) (lmS Sz nz iz) shdz shsz (nI 0) (by omega) (by omega) (lmS_ok hS1 iz) (lmD_ok hD1 iz (by omega)) (by omega) (by omega) ((xz + ((nI iz) * yz)) - (xz + ((nI iz) * yz)) / (nI 1000) * (nI 1000))) (cwV 1 hts gX2_coach_X2_lays rfl rfl rfl (by decide +kernel) ⟨Nat.le_of_ble_eq_true rfl, Nat.le_of_ble_eq_true rfl⟩) hK hP hD hS hA (ci := 2) (q0 := 0) rfl rfl rfl (isC := [0, 1, 2, 3, 4, 5]) (isR := []) (perm := [0, 1, 2, 3, 4, 5]) (wr := []) (wN := wm cI oz loz liz siz shz saz (nz + iz + 1) (camez + iz + 1) cz gz (upd (lmL louz camez xz yz iz) (camez + iz) ((xz + ((nI iz) * yz)) - (xz + ((nI iz) * yz)) / (nI 1000) * (nI 1000))) (upd (lmD Dz nz camez iz) (nz + iz) (nI (camez + iz))) (upd (lmS Sz nz iz) (nz + iz) 0) shdz shsz (nI 0)) ⟨rfl, by decide, rfl, rfl, (fun _ hz => by cases hz), rfl, by decide⟩ [0] rfl rfl hl.1 rfl (Nat.le_of_ble_eq_true rfl) dX2_coach_109 ⟨Nat.le_refl _, Nat.le_refl _⟩ (fun H locs hP hD hS => ?_)
                      have hP : va_P G vwCl (wm cI oz loz liz siz shz saz (nz + (iz + 1)) (camez + (iz + 1)) cz gz (lmL louz camez xz yz (iz + 1)) (lmD Dz nz camez (iz + 1)) (lmS Sz nz (iz + 1)) shdz shsz (nI 0)) H := hP
                      have hD : va_D A (wm cI oz loz liz siz shz saz (nz + (iz + 1)) (camez + (iz + 1)) cz gz (lmL louz camez xz yz (iz + 1)) (lmD Dz nz camez (iz + 1)) (lmS Sz nz (iz + 1)) shdz shsz (nI 0)) := hD
                      refine lv_iinc (v := nI (iz + 1)) (lv' := [(5, .int (nI (iz + 1))), (0, .ref oz), (1, .int (nI kk)), (2, .int xz), (3, .int yz)]) hx hb dX2_coach_112 hl (k := 4) rfl (nI_1 _) (by decide) rfl (fun ls hl => ?_)
                      refine lv_goto (tgt := 92) hx hb dX2_coach_115 (by decide) ?_
                      exact ih (iz + 1) (by omega) (by omega) _ _ _ hP hD hS (lv_sub hl [1, 2, 3, 4, 0] rfl)
                exact loop (kk + 1) 0 (by omega) (by omega) _ _ _ hP hD hS (lv_sub hl [2, 3, 4, 5, 0] rfl)
              · exact absurd hc84 (by decide)
            · skip
              have k69 : 500 < (camez + kk) := k_nle (by omega) (by omega) hc69
              exact absurd k69 (by omega)
        · exact absurd hc42 (by decide)
