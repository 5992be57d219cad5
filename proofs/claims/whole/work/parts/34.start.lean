/-! the constructors, and how the law begins (printed: wip/gen/genstart.py) -/
theorem hn_nw {h : MH} {k n : Nat} : hn (nw h k n) = hn h + 1 := rfl
theorem kd_new {h : MH} {k n : Nat} : kd (nw h k n) (hn h) = k := by show (if hn h = hn h then k else kd h (hn h)) = k; rw [if_pos rfl]
theorem kd_new1 {h : MH} {k n a : Nat} (e : hn h = a) : kd (nw h k n) a = k := by subst e; exact kd_new
theorem kd_old {h : MH} {k n b : Nat} (hb : b ≠ hn h) : kd (nw h k n) b = kd h b := by show (if b = hn h then k else kd h b) = kd h b; rw [if_neg hb]
theorem ln_new {h : MH} {k n : Nat} : ln (nw h k n) (hn h) = n := by show (if hn h = hn h then n else ln h (hn h)) = n; rw [if_pos rfl]
theorem ln_old {h : MH} {k n b : Nat} (hb : b ≠ hn h) : ln (nw h k n) b = ln h b := by show (if b = hn h then n else ln h b) = ln h b; rw [if_neg hb]
theorem ix3 : ix (3 : Int32) = 3 := rfl
theorem ix4 : ix (4 : Int32) = 4 := rfl
theorem ix6 : ix (6 : Int32) = 6 := rfl
theorem ix8 : ix (8 : Int32) = 8 := rfl
theorem ix9 : ix (9 : Int32) = 9 := rfl
theorem ix12 : ix (12 : Int32) = 12 := rfl
theorem ix13 : ix (13 : Int32) = 13 := rfl
theorem ix16 : ix (16 : Int32) = 16 := rfl
theorem ix20 : ix (20 : Int32) = 20 := rfl
theorem ix24 : ix (24 : Int32) = 24 := rfl
theorem ix40 : ix (40 : Int32) = 40 := rfl
theorem ix48 : ix (48 : Int32) = 48 := rfl
theorem ix60 : ix (60 : Int32) = 60 := rfl
theorem ix100 : ix (100 : Int32) = 100 := rfl
theorem ix192 : ix (192 : Int32) = 192 := rfl
theorem ix200 : ix (200 : Int32) = 200 := rfl
theorem ix240 : ix (240 : Int32) = 240 := rfl
theorem ix400 : ix (400 : Int32) = 400 := rfl
theorem ix2200 : ix (2200 : Int32) = 2200 := rfl
theorem ix3000 : ix (3000 : Int32) = 3000 := rfl
theorem ix6000 : ix (6000 : Int32) = 6000 := rfl
theorem ix8800 : ix (8800 : Int32) = 8800 := rfl
theorem ix11520 : ix (11520 : Int32) = 11520 := rfl
theorem ix23040 : ix (23040 : Int32) = 23040 := rfl
theorem ix36864 : ix (36864 : Int32) = 36864 := rfl
def iM (a : Nat) (h : MH) : MH := wr (nw (wr (nw h 20 9) a 0 (hn h)) 20 3) a 1 (hn h + 1)
theorem hn_iM {a : Nat} {h : MH} : hn (iM a h) = hn h + 2 := rfl
theorem kd_iM {a b : Nat} {h : MH} (hb : b < hn h) : kd (iM a h) b = kd h b := by unfold iM; rw [kd_wr, kd_old (show b ≠ hn h + 1 by omega), kd_wr, kd_old (by omega)]
theorem sp_Motion_init {a : Nat} {h : MH} (ha : a ≠ 0) (hl : a < hn h) (hk : kd h a = 7) : SpV k_Motion_init [.ref a] h (fun g => g = iM a h) := by
  refine v_Motion_init a h _ ⟨ha, ?_⟩
  rintro _ rfl
  refine ⟨by rw [kd_old (by omega)]; exact hk, ?_⟩
  rintro _ rfl
  refine v_Motion_init_1 _ _ _ _ _ (gd_i rfl (gd_i rfl ?_))
  rintro _ rfl
  refine ⟨by rw [kd_old (show a ≠ hn h + 1 by omega), kd_wr, kd_old (by omega)]; exact hk, ?_⟩
  rintro _ rfl
  exact v_Motion_init_2 _ _ _ _ (gd_i rfl (gd_i rfl rfl))
def iR (a n : Nat) (h : MH) : MH := wr (nw (wi h a 1 0) 20 n) a 0 (hn h)
theorem hn_iR {a n : Nat} {h : MH} : hn (iR a n h) = hn h + 1 := rfl
theorem kd_iR {a b n : Nat} {h : MH} (hb : b < hn h) : kd (iR a n h) b = kd h b := by unfold iR; rw [kd_wr, kd_old (h := wi h a 1 0) (show b ≠ hn h by omega), kd_wi]
theorem sp_Row_init {a n : Nat} {h : MH} (ha : a ≠ 0) (hl : a < hn h) (hk : kd h a = 9) (hn4 : n ≤ 400) : SpV k_Row_init [.ref a, .int (nI n)] h (fun g => g = iR a n h) := by
  refine v_Row_init a _ h _ ⟨ha, hk, ?_⟩
  rintro _ rfl
  refine v_Row_init_1 _ _ _ _ _ _ (gd_i rfl (gd_i rfl ?_))
  refine SpI.mono (sp_maxI _ _) ?_
  rintro y h' ⟨e0, e1⟩
  subst h'
  have t0 : (0 : Int32).toInt = 0 := rfl
  have tn : (nI n).toInt = (n : Int) := nI_toI (by omega)
  have e : y = nI n := by
    rw [e1, if_neg (by rw [t0, tn]; omega)]
  subst e
  refine ⟨by rw [tn]; omega, gd_i rfl (gd_iff.mpr ⟨by rw [ix_nI (by omega)]; omega, ?_⟩)⟩
  rintro _ rfl
  rw [ix_nI (by omega)]
  refine ⟨by rw [kd_old (h := wi h a 1 0) (show a ≠ hn h by omega)]; exact hk, ?_⟩
  rintro _ rfl
  exact v_Row_init_2 _ _ _ _ (gd_i rfl (gd_iff.mpr ⟨by omega, rfl⟩))
abbrev h0T : Type := (Nat → Nat) × (Nat → Nat) × (Nat → Nat → Int32) × (Nat → Nat → Int64) × (Nat → Nat → Nat)
abbrev B_ : Type := Nat
def B0 (z : h0T) : MH := nw (5, z) 12 0
theorem hB0 {z : h0T} : hn (B0 z) = 6 := rfl
def B1 (z : h0T) : MH := nw (B0 z) 10 0
theorem hB1 {z : h0T} : hn (B1 z) = 7 := by unfold B1; rw [hn_nw, hB0]
def B2 (z : h0T) : MH := nw (B1 z) 20 20
theorem hB2 {z : h0T} : hn (B2 z) = 8 := by unfold B2; rw [hn_nw, hB1]
def B3 (z : h0T) : MH := wr (B2 z) 6 0 7
theorem hB3 {z : h0T} : hn (B3 z) = 8 := by unfold B3; rw [hn_wr, hB2]
def B4 (z : h0T) : MH := nw (B3 z) 20 100
theorem hB4 {z : h0T} : hn (B4 z) = 9 := by unfold B4; rw [hn_nw, hB3]
def B5 (z : h0T) : MH := wr (B4 z) 6 1 8
theorem hB5 {z : h0T} : hn (B5 z) = 9 := by unfold B5; rw [hn_wr, hB4]
def B6 (z : h0T) : MH := wi (B5 z) 6 2 (0 : Int32)
theorem hB6 {z : h0T} : hn (B6 z) = 9 := by unfold B6; rw [hn_wi, hB5]
def B7 (z : h0T) : MH := wi (B6 z) 6 3 (0 : Int32)
theorem hB7 {z : h0T} : hn (B7 z) = 9 := by unfold B7; rw [hn_wi, hB6]
def B8 (z : h0T) : MH := wi (B7 z) 6 4 (0 : Int32)
theorem hB8 {z : h0T} : hn (B8 z) = 9 := by unfold B8; rw [hn_wi, hB7]
def B9 (z : h0T) : MH := wi (B8 z) 6 5 (-1 : Int32)
theorem hB9 {z : h0T} : hn (B9 z) = 9 := by unfold B9; rw [hn_wi, hB8]
def B10 (z : h0T) : MH := nw (B9 z) 7 0
theorem hB10 {z : h0T} : hn (B10 z) = 10 := by unfold B10; rw [hn_nw, hB9]
def B11 (z : h0T) : MH := nw (B10 z) 20 9
theorem hB11 {z : h0T} : hn (B11 z) = 11 := by unfold B11; rw [hn_nw, hB10]
def B12 (z : h0T) : MH := wr (B11 z) 9 0 10
theorem hB12 {z : h0T} : hn (B12 z) = 11 := by unfold B12; rw [hn_wr, hB11]
def B13 (z : h0T) : MH := nw (B12 z) 20 3
theorem hB13 {z : h0T} : hn (B13 z) = 12 := by unfold B13; rw [hn_nw, hB12]
def B14 (z : h0T) : MH := wr (B13 z) 9 1 11
theorem hB14 {z : h0T} : hn (B14 z) = 12 := by unfold B14; rw [hn_wr, hB13]
def B15 (z : h0T) : MH := wr (B14 z) 6 6 9
theorem hB15 {z : h0T} : hn (B15 z) = 12 := by unfold B15; rw [hn_wr, hB14]
def B16 (z : h0T) : MH := nw (B15 z) 23 48
theorem hB16 {z : h0T} : hn (B16 z) = 13 := by unfold B16; rw [hn_nw, hB15]
def B17 (z : h0T) : MH := wr (B16 z) 6 7 12
theorem hB17 {z : h0T} : hn (B17 z) = 13 := by unfold B17; rw [hn_wr, hB16]
def B18 (z : h0T) : MH := wi (B17 z) 6 8 (0 : Int32)
theorem hB18 {z : h0T} : hn (B18 z) = 13 := by unfold B18; rw [hn_wi, hB17]
def B19 (z : h0T) : MH := wr (B18 z) 5 0 6
theorem hB19 {z : h0T} : hn (B19 z) = 13 := by unfold B19; rw [hn_wr, hB18]
def B20 (z : h0T) : MH := nw (B19 z) 20 40
theorem hB20 {z : h0T} : hn (B20 z) = 14 := by unfold B20; rw [hn_nw, hB19]
def B21 (z : h0T) : MH := wr (B20 z) 5 1 13
theorem hB21 {z : h0T} : hn (B21 z) = 14 := by unfold B21; rw [hn_wr, hB20]
def B22 (z : h0T) : MH := nw (B21 z) 22 40
theorem hB22 {z : h0T} : hn (B22 z) = 15 := by unfold B22; rw [hn_nw, hB21]
def B23 (z : h0T) : MH := wr (B22 z) 5 2 14
theorem hB23 {z : h0T} : hn (B23 z) = 15 := by unfold B23; rw [hn_wr, hB22]
def B24 (z : h0T) : MH := wi (B23 z) 5 3 (0 : Int32)
theorem hB24 {z : h0T} : hn (B24 z) = 15 := by unfold B24; rw [hn_wi, hB23]
def B25 (z : h0T) : MH := nw (B24 z) 2 0
theorem hB25 {z : h0T} : hn (B25 z) = 16 := by unfold B25; rw [hn_nw, hB24]
def B26 (z : h0T) : MH := nw (B25 z) 9 0
theorem hB26 {z : h0T} : hn (B26 z) = 17 := by unfold B26; rw [hn_nw, hB25]
def B27 (z : h0T) : MH := wi (B26 z) 16 1 0
theorem hB27 {z : h0T} : hn (B27 z) = 17 := by unfold B27; rw [hn_wi, hB26]
def B28 (z : h0T) : MH := nw (B27 z) 20 192
theorem hB28 {z : h0T} : hn (B28 z) = 18 := by unfold B28; rw [hn_nw, hB27]
def B29 (z : h0T) : MH := wr (B28 z) 16 0 17
theorem hB29 {z : h0T} : hn (B29 z) = 18 := by unfold B29; rw [hn_wr, hB28]
def B30 (z : h0T) : MH := wr (B29 z) 15 0 16
theorem hB30 {z : h0T} : hn (B30 z) = 18 := by unfold B30; rw [hn_wr, hB29]
def B31 (z : h0T) : MH := nw (B30 z) 20 192
theorem hB31 {z : h0T} : hn (B31 z) = 19 := by unfold B31; rw [hn_nw, hB30]
def B32 (z : h0T) : MH := wr (B31 z) 15 1 18
theorem hB32 {z : h0T} : hn (B32 z) = 19 := by unfold B32; rw [hn_wr, hB31]
def B33 (z : h0T) : MH := nw (B32 z) 20 8
theorem hB33 {z : h0T} : hn (B33 z) = 20 := by unfold B33; rw [hn_nw, hB32]
def B34 (z : h0T) : MH := wr (B33 z) 15 2 19
theorem hB34 {z : h0T} : hn (B34 z) = 20 := by unfold B34; rw [hn_wr, hB33]
def B35 (z : h0T) : MH := wi (B34 z) 15 3 (0 : Int32)
theorem hB35 {z : h0T} : hn (B35 z) = 20 := by unfold B35; rw [hn_wi, hB34]
def B36 (z : h0T) : MH := nw (B35 z) 7 0
theorem hB36 {z : h0T} : hn (B36 z) = 21 := by unfold B36; rw [hn_nw, hB35]
def B37 (z : h0T) : MH := nw (B36 z) 20 9
theorem hB37 {z : h0T} : hn (B37 z) = 22 := by unfold B37; rw [hn_nw, hB36]
def B38 (z : h0T) : MH := wr (B37 z) 20 0 21
theorem hB38 {z : h0T} : hn (B38 z) = 22 := by unfold B38; rw [hn_wr, hB37]
def B39 (z : h0T) : MH := nw (B38 z) 20 3
theorem hB39 {z : h0T} : hn (B39 z) = 23 := by unfold B39; rw [hn_nw, hB38]
def B40 (z : h0T) : MH := wr (B39 z) 20 1 22
theorem hB40 {z : h0T} : hn (B40 z) = 23 := by unfold B40; rw [hn_wr, hB39]
def B41 (z : h0T) : MH := wr (B40 z) 15 4 20
theorem hB41 {z : h0T} : hn (B41 z) = 23 := by unfold B41; rw [hn_wr, hB40]
def B42 (z : h0T) : MH := nw (B41 z) 7 0
theorem hB42 {z : h0T} : hn (B42 z) = 24 := by unfold B42; rw [hn_nw, hB41]
def B43 (z : h0T) : MH := nw (B42 z) 20 9
theorem hB43 {z : h0T} : hn (B43 z) = 25 := by unfold B43; rw [hn_nw, hB42]
def B44 (z : h0T) : MH := wr (B43 z) 23 0 24
theorem hB44 {z : h0T} : hn (B44 z) = 25 := by unfold B44; rw [hn_wr, hB43]
def B45 (z : h0T) : MH := nw (B44 z) 20 3
theorem hB45 {z : h0T} : hn (B45 z) = 26 := by unfold B45; rw [hn_nw, hB44]
def B46 (z : h0T) : MH := wr (B45 z) 23 1 25
theorem hB46 {z : h0T} : hn (B46 z) = 26 := by unfold B46; rw [hn_wr, hB45]
def B47 (z : h0T) : MH := wr (B46 z) 15 5 23
theorem hB47 {z : h0T} : hn (B47 z) = 26 := by unfold B47; rw [hn_wr, hB46]
def B48 (z : h0T) : MH := nw (B47 z) 7 0
theorem hB48 {z : h0T} : hn (B48 z) = 27 := by unfold B48; rw [hn_nw, hB47]
def B49 (z : h0T) : MH := nw (B48 z) 20 9
theorem hB49 {z : h0T} : hn (B49 z) = 28 := by unfold B49; rw [hn_nw, hB48]
def B50 (z : h0T) : MH := wr (B49 z) 26 0 27
theorem hB50 {z : h0T} : hn (B50 z) = 28 := by unfold B50; rw [hn_wr, hB49]
def B51 (z : h0T) : MH := nw (B50 z) 20 3
theorem hB51 {z : h0T} : hn (B51 z) = 29 := by unfold B51; rw [hn_nw, hB50]
def B52 (z : h0T) : MH := wr (B51 z) 26 1 28
theorem hB52 {z : h0T} : hn (B52 z) = 29 := by unfold B52; rw [hn_wr, hB51]
def B53 (z : h0T) : MH := wr (B52 z) 15 6 26
theorem hB53 {z : h0T} : hn (B53 z) = 29 := by unfold B53; rw [hn_wr, hB52]
def B54 (z : h0T) : MH := wr (B53 z) 5 4 15
theorem hB54 {z : h0T} : hn (B54 z) = 29 := by unfold B54; rw [hn_wr, hB53]
def B55 (z : h0T) : MH := nw (B54 z) 24 60
theorem hB55 {z : h0T} : hn (B55 z) = 30 := by unfold B55; rw [hn_nw, hB54]
def B56 (z : h0T) : MH := wr (B55 z) 5 5 29
theorem hB56 {z : h0T} : hn (B56 z) = 30 := by unfold B56; rw [hn_wr, hB55]
def B57 (z : h0T) : MH := wi (B56 z) 5 6 (0 : Int32)
theorem hB57 {z : h0T} : hn (B57 z) = 30 := by unfold B57; rw [hn_wi, hB56]
def B58 (z : h0T) : MH := nw (B57 z) 7 0
theorem hB58 {z : h0T} : hn (B58 z) = 31 := by unfold B58; rw [hn_nw, hB57]
def B59 (z : h0T) : MH := nw (B58 z) 20 9
theorem hB59 {z : h0T} : hn (B59 z) = 32 := by unfold B59; rw [hn_nw, hB58]
def B60 (z : h0T) : MH := wr (B59 z) 30 0 31
theorem hB60 {z : h0T} : hn (B60 z) = 32 := by unfold B60; rw [hn_wr, hB59]
def B61 (z : h0T) : MH := nw (B60 z) 20 3
theorem hB61 {z : h0T} : hn (B61 z) = 33 := by unfold B61; rw [hn_nw, hB60]
def B62 (z : h0T) : MH := wr (B61 z) 30 1 32
theorem hB62 {z : h0T} : hn (B62 z) = 33 := by unfold B62; rw [hn_wr, hB61]
def B63 (z : h0T) : MH := wr (B62 z) 5 7 30
theorem hB63 {z : h0T} : hn (B63 z) = 33 := by unfold B63; rw [hn_wr, hB62]
def B64 (z : h0T) : MH := nw (B63 z) 7 0
theorem hB64 {z : h0T} : hn (B64 z) = 34 := by unfold B64; rw [hn_nw, hB63]
def B65 (z : h0T) : MH := nw (B64 z) 20 9
theorem hB65 {z : h0T} : hn (B65 z) = 35 := by unfold B65; rw [hn_nw, hB64]
def B66 (z : h0T) : MH := wr (B65 z) 33 0 34
theorem hB66 {z : h0T} : hn (B66 z) = 35 := by unfold B66; rw [hn_wr, hB65]
def B67 (z : h0T) : MH := nw (B66 z) 20 3
theorem hB67 {z : h0T} : hn (B67 z) = 36 := by unfold B67; rw [hn_nw, hB66]
def B68 (z : h0T) : MH := wr (B67 z) 33 1 35
theorem hB68 {z : h0T} : hn (B68 z) = 36 := by unfold B68; rw [hn_wr, hB67]
def B69 (z : h0T) : MH := wr (B68 z) 5 8 33
theorem hB69 {z : h0T} : hn (B69 z) = 36 := by unfold B69; rw [hn_wr, hB68]
def B70 (z : h0T) : MH := nw (B69 z) 7 0
theorem hB70 {z : h0T} : hn (B70 z) = 37 := by unfold B70; rw [hn_nw, hB69]
def B71 (z : h0T) : MH := nw (B70 z) 20 9
theorem hB71 {z : h0T} : hn (B71 z) = 38 := by unfold B71; rw [hn_nw, hB70]
def B72 (z : h0T) : MH := wr (B71 z) 36 0 37
theorem hB72 {z : h0T} : hn (B72 z) = 38 := by unfold B72; rw [hn_wr, hB71]
def B73 (z : h0T) : MH := nw (B72 z) 20 3
theorem hB73 {z : h0T} : hn (B73 z) = 39 := by unfold B73; rw [hn_nw, hB72]
def B74 (z : h0T) : MH := wr (B73 z) 36 1 38
theorem hB74 {z : h0T} : hn (B74 z) = 39 := by unfold B74; rw [hn_wr, hB73]
def B75 (z : h0T) : MH := wr (B74 z) 5 9 36
theorem hB75 {z : h0T} : hn (B75 z) = 39 := by unfold B75; rw [hn_wr, hB74]
def B76 (z : h0T) : MH := nw (B75 z) 9 0
theorem hB76 {z : h0T} : hn (B76 z) = 40 := by unfold B76; rw [hn_nw, hB75]
def B77 (z : h0T) : MH := wi (B76 z) 39 1 0
theorem hB77 {z : h0T} : hn (B77 z) = 40 := by unfold B77; rw [hn_wi, hB76]
def B78 (z : h0T) : MH := nw (B77 z) 20 384
theorem hB78 {z : h0T} : hn (B78 z) = 41 := by unfold B78; rw [hn_nw, hB77]
def B79 (z : h0T) : MH := wr (B78 z) 39 0 40
theorem hB79 {z : h0T} : hn (B79 z) = 41 := by unfold B79; rw [hn_wr, hB78]
def B80 (z : h0T) : MH := wr (B79 z) 5 10 39
theorem hB80 {z : h0T} : hn (B80 z) = 41 := by unfold B80; rw [hn_wr, hB79]
def B81 (z : h0T) : MH := nw (B80 z) 20 192
theorem hB81 {z : h0T} : hn (B81 z) = 42 := by unfold B81; rw [hn_nw, hB80]
def B82 (z : h0T) : MH := wr (B81 z) 5 11 41
theorem hB82 {z : h0T} : hn (B82 z) = 42 := by unfold B82; rw [hn_wr, hB81]
def B83 (z : h0T) : MH := nw (B82 z) 20 192
theorem hB83 {z : h0T} : hn (B83 z) = 43 := by unfold B83; rw [hn_nw, hB82]
def B84 (z : h0T) : MH := wr (B83 z) 5 12 42
theorem hB84 {z : h0T} : hn (B84 z) = 43 := by unfold B84; rw [hn_wr, hB83]
def B85 (z : h0T) : MH := nw (B84 z) 25 40
theorem hB85 {z : h0T} : hn (B85 z) = 44 := by unfold B85; rw [hn_nw, hB84]
def B86 (z : h0T) : MH := wr (B85 z) 5 13 43
theorem hB86 {z : h0T} : hn (B86 z) = 44 := by unfold B86; rw [hn_wr, hB85]
def B87 (z : h0T) : MH := wi (B86 z) 5 14 (0 : Int32)
theorem hB87 {z : h0T} : hn (B87 z) = 44 := by unfold B87; rw [hn_wi, hB86]
def B88 (z : h0T) : MH := nw (B87 z) 26 20
theorem hB88 {z : h0T} : hn (B88 z) = 45 := by unfold B88; rw [hn_nw, hB87]
def B89 (z : h0T) : MH := wr (B88 z) 5 15 44
theorem hB89 {z : h0T} : hn (B89 z) = 45 := by unfold B89; rw [hn_wr, hB88]
def B90 (z : h0T) : MH := wi (B89 z) 5 16 (0 : Int32)
theorem hB90 {z : h0T} : hn (B90 z) = 45 := by unfold B90; rw [hn_wi, hB89]
def B91 (z : h0T) : MH := nw (B90 z) 11 0
theorem hB91 {z : h0T} : hn (B91 z) = 46 := by unfold B91; rw [hn_nw, hB90]
def B92 (z : h0T) : MH := nw (B91 z) 21 4
theorem hB92 {z : h0T} : hn (B92 z) = 47 := by unfold B92; rw [hn_nw, hB91]
def B93 (z : h0T) : MH := wr (B92 z) 45 0 46
theorem hB93 {z : h0T} : hn (B93 z) = 47 := by unfold B93; rw [hn_wr, hB92]
def B94 (z : h0T) : MH := nw (B93 z) 21 4
theorem hB94 {z : h0T} : hn (B94 z) = 48 := by unfold B94; rw [hn_nw, hB93]
def B95 (z : h0T) : MH := wr (B94 z) 45 1 47
theorem hB95 {z : h0T} : hn (B95 z) = 48 := by unfold B95; rw [hn_wr, hB94]
def B96 (z : h0T) : MH := nw (B95 z) 21 4
theorem hB96 {z : h0T} : hn (B96 z) = 49 := by unfold B96; rw [hn_nw, hB95]
def B97 (z : h0T) : MH := wr (B96 z) 45 2 48
theorem hB97 {z : h0T} : hn (B97 z) = 49 := by unfold B97; rw [hn_wr, hB96]
def B98 (z : h0T) : MH := nw (B97 z) 20 24
theorem hB98 {z : h0T} : hn (B98 z) = 50 := by unfold B98; rw [hn_nw, hB97]
def B99 (z : h0T) : MH := wr (B98 z) 45 3 49
theorem hB99 {z : h0T} : hn (B99 z) = 50 := by unfold B99; rw [hn_wr, hB98]
def B100 (z : h0T) : MH := wr (B99 z) 5 17 45
theorem hB100 {z : h0T} : hn (B100 z) = 50 := by unfold B100; rw [hn_wr, hB99]
def B101 (z : h0T) : MH := nw (B100 z) 8 0
theorem hB101 {z : h0T} : hn (B101 z) = 51 := by unfold B101; rw [hn_nw, hB100]
def B102 (z : h0T) : MH := nw (B101 z) 20 40
theorem hB102 {z : h0T} : hn (B102 z) = 52 := by unfold B102; rw [hn_nw, hB101]
def B103 (z : h0T) : MH := wr (B102 z) 50 0 51
theorem hB103 {z : h0T} : hn (B103 z) = 52 := by unfold B103; rw [hn_wr, hB102]
def B104 (z : h0T) : MH := nw (B103 z) 20 40
theorem hB104 {z : h0T} : hn (B104 z) = 53 := by unfold B104; rw [hn_nw, hB103]
def B105 (z : h0T) : MH := wr (B104 z) 50 1 52
theorem hB105 {z : h0T} : hn (B105 z) = 53 := by unfold B105; rw [hn_wr, hB104]
def B106 (z : h0T) : MH := nw (B105 z) 21 40
theorem hB106 {z : h0T} : hn (B106 z) = 54 := by unfold B106; rw [hn_nw, hB105]
def B107 (z : h0T) : MH := wr (B106 z) 50 2 53
theorem hB107 {z : h0T} : hn (B107 z) = 54 := by unfold B107; rw [hn_wr, hB106]
def B108 (z : h0T) : MH := wi (B107 z) 50 3 (0 : Int32)
theorem hB108 {z : h0T} : hn (B108 z) = 54 := by unfold B108; rw [hn_wi, hB107]
def B109 (z : h0T) : MH := wl (B108 z) 50 4 (0 : Int64)
theorem hB109 {z : h0T} : hn (B109 z) = 54 := by unfold B109; rw [hn_wl, hB108]
def B110 (z : h0T) : MH := wl (B109 z) 50 5 (1 : Int64)
theorem hB110 {z : h0T} : hn (B110 z) = 54 := by unfold B110; rw [hn_wl, hB109]
def B111 (z : h0T) : MH := wr (B110 z) 5 18 50
theorem hB111 {z : h0T} : hn (B111 z) = 54 := by unfold B111; rw [hn_wr, hB110]
def B112 (z : h0T) : MH := nw (B111 z) 13 0
theorem hB112 {z : h0T} : hn (B112 z) = 55 := by unfold B112; rw [hn_nw, hB111]
def B113 (z : h0T) : MH := nw (B112 z) 20 40
theorem hB113 {z : h0T} : hn (B113 z) = 56 := by unfold B113; rw [hn_nw, hB112]
def B114 (z : h0T) : MH := wr (B113 z) 54 0 55
theorem hB114 {z : h0T} : hn (B114 z) = 56 := by unfold B114; rw [hn_wr, hB113]
def B115 (z : h0T) : MH := nw (B114 z) 20 40
theorem hB115 {z : h0T} : hn (B115 z) = 57 := by unfold B115; rw [hn_nw, hB114]
def B116 (z : h0T) : MH := wr (B115 z) 54 2 56
theorem hB116 {z : h0T} : hn (B116 z) = 57 := by unfold B116; rw [hn_wr, hB115]
def B117 (z : h0T) : MH := nw (B116 z) 20 9
theorem hB117 {z : h0T} : hn (B117 z) = 58 := by unfold B117; rw [hn_nw, hB116]
def B118 (z : h0T) : MH := wr (B117 z) 54 3 57
theorem hB118 {z : h0T} : hn (B118 z) = 58 := by unfold B118; rw [hn_wr, hB117]
def B119 (z : h0T) : MH := nw (B118 z) 20 3
theorem hB119 {z : h0T} : hn (B119 z) = 59 := by unfold B119; rw [hn_nw, hB118]
def B120 (z : h0T) : MH := wr (B119 z) 54 4 58
theorem hB120 {z : h0T} : hn (B120 z) = 59 := by unfold B120; rw [hn_wr, hB119]
def B121 (z : h0T) : MH := nw (B120 z) 20 9
theorem hB121 {z : h0T} : hn (B121 z) = 60 := by unfold B121; rw [hn_nw, hB120]
def B122 (z : h0T) : MH := wr (B121 z) 54 5 59
theorem hB122 {z : h0T} : hn (B122 z) = 60 := by unfold B122; rw [hn_wr, hB121]
def B123 (z : h0T) : MH := nw (B122 z) 20 3
theorem hB123 {z : h0T} : hn (B123 z) = 61 := by unfold B123; rw [hn_nw, hB122]
def B124 (z : h0T) : MH := wr (B123 z) 54 6 60
theorem hB124 {z : h0T} : hn (B124 z) = 61 := by unfold B124; rw [hn_wr, hB123]
def B125 (z : h0T) : MH := nw (B124 z) 20 20
theorem hB125 {z : h0T} : hn (B125 z) = 62 := by unfold B125; rw [hn_nw, hB124]
def B126 (z : h0T) : MH := wr (B125 z) 54 7 61
theorem hB126 {z : h0T} : hn (B126 z) = 62 := by unfold B126; rw [hn_wr, hB125]
def B127 (z : h0T) : MH := nw (B126 z) 20 100
theorem hB127 {z : h0T} : hn (B127 z) = 63 := by unfold B127; rw [hn_nw, hB126]
def B128 (z : h0T) : MH := wr (B127 z) 54 8 62
theorem hB128 {z : h0T} : hn (B128 z) = 63 := by unfold B128; rw [hn_wr, hB127]
def B129 (z : h0T) : MH := wi (B128 z) 54 11 (-1 : Int32)
theorem hB129 {z : h0T} : hn (B129 z) = 63 := by unfold B129; rw [hn_wi, hB128]
def B130 (z : h0T) : MH := nw (B129 z) 20 60
theorem hB130 {z : h0T} : hn (B130 z) = 64 := by unfold B130; rw [hn_nw, hB129]
def B131 (z : h0T) : MH := wr (B130 z) 54 13 63
theorem hB131 {z : h0T} : hn (B131 z) = 64 := by unfold B131; rw [hn_wr, hB130]
def B132 (z : h0T) : MH := nw (B131 z) 20 11520
theorem hB132 {z : h0T} : hn (B132 z) = 65 := by unfold B132; rw [hn_nw, hB131]
def B133 (z : h0T) : MH := wr (B132 z) 54 15 64
theorem hB133 {z : h0T} : hn (B133 z) = 65 := by unfold B133; rw [hn_wr, hB132]
def B134 (z : h0T) : MH := nw (B133 z) 20 60
theorem hB134 {z : h0T} : hn (B134 z) = 66 := by unfold B134; rw [hn_nw, hB133]
def B135 (z : h0T) : MH := wr (B134 z) 54 16 65
theorem hB135 {z : h0T} : hn (B135 z) = 66 := by unfold B135; rw [hn_wr, hB134]
def B136 (z : h0T) : MH := nw (B135 z) 20 200
theorem hB136 {z : h0T} : hn (B136 z) = 67 := by unfold B136; rw [hn_nw, hB135]
def B137 (z : h0T) : MH := wr (B136 z) 54 18 66
theorem hB137 {z : h0T} : hn (B137 z) = 67 := by unfold B137; rw [hn_wr, hB136]
def B138 (z : h0T) : MH := nw (B137 z) 20 60
theorem hB138 {z : h0T} : hn (B138 z) = 68 := by unfold B138; rw [hn_nw, hB137]
def B139 (z : h0T) : MH := wr (B138 z) 54 20 67
theorem hB139 {z : h0T} : hn (B139 z) = 68 := by unfold B139; rw [hn_wr, hB138]
def B140 (z : h0T) : MH := nw (B139 z) 20 60
theorem hB140 {z : h0T} : hn (B140 z) = 69 := by unfold B140; rw [hn_nw, hB139]
def B141 (z : h0T) : MH := wr (B140 z) 54 21 68
theorem hB141 {z : h0T} : hn (B141 z) = 69 := by unfold B141; rw [hn_wr, hB140]
def B142 (z : h0T) : MH := nw (B141 z) 22 60
theorem hB142 {z : h0T} : hn (B142 z) = 70 := by unfold B142; rw [hn_nw, hB141]
def B143 (z : h0T) : MH := wr (B142 z) 54 22 69
theorem hB143 {z : h0T} : hn (B143 z) = 70 := by unfold B143; rw [hn_wr, hB142]
def B144 (z : h0T) : MH := nw (B143 z) 21 23040
theorem hB144 {z : h0T} : hn (B144 z) = 71 := by unfold B144; rw [hn_nw, hB143]
def B145 (z : h0T) : MH := wr (B144 z) 54 23 70
theorem hB145 {z : h0T} : hn (B145 z) = 71 := by unfold B145; rw [hn_wr, hB144]
def B146 (z : h0T) : MH := nw (B145 z) 20 36864
theorem hB146 {z : h0T} : hn (B146 z) = 72 := by unfold B146; rw [hn_nw, hB145]
def B147 (z : h0T) : MH := wr (B146 z) 54 24 71
theorem hB147 {z : h0T} : hn (B147 z) = 72 := by unfold B147; rw [hn_wr, hB146]
def B148 (z : h0T) : MH := nw (B147 z) 20 200
theorem hB148 {z : h0T} : hn (B148 z) = 73 := by unfold B148; rw [hn_nw, hB147]
def B149 (z : h0T) : MH := wr (B148 z) 54 25 72
theorem hB149 {z : h0T} : hn (B149 z) = 73 := by unfold B149; rw [hn_wr, hB148]
def B150 (z : h0T) : MH := nw (B149 z) 20 16
theorem hB150 {z : h0T} : hn (B150 z) = 74 := by unfold B150; rw [hn_nw, hB149]
def B151 (z : h0T) : MH := wr (B150 z) 54 26 73
theorem hB151 {z : h0T} : hn (B151 z) = 74 := by unfold B151; rw [hn_wr, hB150]
def B152 (z : h0T) : MH := nw (B151 z) 20 200
theorem hB152 {z : h0T} : hn (B152 z) = 75 := by unfold B152; rw [hn_nw, hB151]
def B153 (z : h0T) : MH := wr (B152 z) 54 27 74
theorem hB153 {z : h0T} : hn (B153 z) = 75 := by unfold B153; rw [hn_wr, hB152]
def B154 (z : h0T) : MH := nw (B153 z) 20 13
theorem hB154 {z : h0T} : hn (B154 z) = 76 := by unfold B154; rw [hn_nw, hB153]
def B155 (z : h0T) : MH := wr (B154 z) 54 28 75
theorem hB155 {z : h0T} : hn (B155 z) = 76 := by unfold B155; rw [hn_wr, hB154]
def B156 (z : h0T) : MH := nw (B155 z) 21 240
theorem hB156 {z : h0T} : hn (B156 z) = 77 := by unfold B156; rw [hn_nw, hB155]
def B157 (z : h0T) : MH := wr (B156 z) 54 29 76
theorem hB157 {z : h0T} : hn (B157 z) = 77 := by unfold B157; rw [hn_wr, hB156]
def B158 (z : h0T) : MH := nw (B157 z) 21 240
theorem hB158 {z : h0T} : hn (B158 z) = 78 := by unfold B158; rw [hn_nw, hB157]
def B159 (z : h0T) : MH := wr (B158 z) 54 30 77
theorem hB159 {z : h0T} : hn (B159 z) = 78 := by unfold B159; rw [hn_wr, hB158]
def B160 (z : h0T) : MH := nw (B159 z) 20 40
theorem hB160 {z : h0T} : hn (B160 z) = 79 := by unfold B160; rw [hn_nw, hB159]
def B161 (z : h0T) : MH := wr (B160 z) 54 31 78
theorem hB161 {z : h0T} : hn (B161 z) = 79 := by unfold B161; rw [hn_wr, hB160]
def B162 (z : h0T) : MH := nw (B161 z) 21 6
theorem hB162 {z : h0T} : hn (B162 z) = 80 := by unfold B162; rw [hn_nw, hB161]
def B163 (z : h0T) : MH := wr (B162 z) 54 33 79
theorem hB163 {z : h0T} : hn (B163 z) = 80 := by unfold B163; rw [hn_wr, hB162]
def B164 (z : h0T) : MH := nw (B163 z) 21 3000
theorem hB164 {z : h0T} : hn (B164 z) = 81 := by unfold B164; rw [hn_nw, hB163]
def B165 (z : h0T) : MH := wr (B164 z) 54 34 80
theorem hB165 {z : h0T} : hn (B165 z) = 81 := by unfold B165; rw [hn_wr, hB164]
def B166 (z : h0T) : MH := wi (B165 z) 54 36 (-1 : Int32)
theorem hB166 {z : h0T} : hn (B166 z) = 81 := by unfold B166; rw [hn_wi, hB165]
def B167 (z : h0T) : MH := nw (B166 z) 20 20
theorem hB167 {z : h0T} : hn (B167 z) = 82 := by unfold B167; rw [hn_nw, hB166]
def B168 (z : h0T) : MH := wr (B167 z) 54 38 81
theorem hB168 {z : h0T} : hn (B168 z) = 82 := by unfold B168; rw [hn_wr, hB167]
def B169 (z : h0T) : MH := nw (B168 z) 20 20
theorem hB169 {z : h0T} : hn (B169 z) = 83 := by unfold B169; rw [hn_nw, hB168]
def B170 (z : h0T) : MH := wr (B169 z) 54 39 82
theorem hB170 {z : h0T} : hn (B170 z) = 83 := by unfold B170; rw [hn_wr, hB169]
def B171 (z : h0T) : MH := nw (B170 z) 20 20
theorem hB171 {z : h0T} : hn (B171 z) = 84 := by unfold B171; rw [hn_nw, hB170]
def B172 (z : h0T) : MH := wr (B171 z) 54 40 83
theorem hB172 {z : h0T} : hn (B172 z) = 84 := by unfold B172; rw [hn_wr, hB171]
def B173 (z : h0T) : MH := nw (B172 z) 20 20
theorem hB173 {z : h0T} : hn (B173 z) = 85 := by unfold B173; rw [hn_nw, hB172]
def B174 (z : h0T) : MH := wr (B173 z) 54 41 84
theorem hB174 {z : h0T} : hn (B174 z) = 85 := by unfold B174; rw [hn_wr, hB173]
def B175 (z : h0T) : MH := nw (B174 z) 20 6000
theorem hB175 {z : h0T} : hn (B175 z) = 86 := by unfold B175; rw [hn_nw, hB174]
def B176 (z : h0T) : MH := wr (B175 z) 54 42 85
theorem hB176 {z : h0T} : hn (B176 z) = 86 := by unfold B176; rw [hn_wr, hB175]
def B177 (z : h0T) : MH := nw (B176 z) 20 6000
theorem hB177 {z : h0T} : hn (B177 z) = 87 := by unfold B177; rw [hn_nw, hB176]
def B178 (z : h0T) : MH := wr (B177 z) 54 43 86
theorem hB178 {z : h0T} : hn (B178 z) = 87 := by unfold B178; rw [hn_wr, hB177]
def B179 (z : h0T) : MH := nw (B178 z) 20 6000
theorem hB179 {z : h0T} : hn (B179 z) = 88 := by unfold B179; rw [hn_nw, hB178]
def B180 (z : h0T) : MH := wr (B179 z) 54 44 87
theorem hB180 {z : h0T} : hn (B180 z) = 88 := by unfold B180; rw [hn_wr, hB179]
def B181 (z : h0T) : MH := nw (B180 z) 21 12
theorem hB181 {z : h0T} : hn (B181 z) = 89 := by unfold B181; rw [hn_nw, hB180]
def B182 (z : h0T) : MH := wr (B181 z) 54 46 88
theorem hB182 {z : h0T} : hn (B182 z) = 89 := by unfold B182; rw [hn_wr, hB181]
def B183 (z : h0T) : MH := nw (B182 z) 21 2200
theorem hB183 {z : h0T} : hn (B183 z) = 90 := by unfold B183; rw [hn_nw, hB182]
def B184 (z : h0T) : MH := wr (B183 z) 54 47 89
theorem hB184 {z : h0T} : hn (B184 z) = 90 := by unfold B184; rw [hn_wr, hB183]
def B185 (z : h0T) : MH := nw (B184 z) 20 2200
theorem hB185 {z : h0T} : hn (B185 z) = 91 := by unfold B185; rw [hn_nw, hB184]
def B186 (z : h0T) : MH := wr (B185 z) 54 48 90
theorem hB186 {z : h0T} : hn (B186 z) = 91 := by unfold B186; rw [hn_wr, hB185]
def B187 (z : h0T) : MH := nw (B186 z) 21 8800
theorem hB187 {z : h0T} : hn (B187 z) = 92 := by unfold B187; rw [hn_nw, hB186]
def B188 (z : h0T) : MH := wr (B187 z) 54 49 91
theorem hB188 {z : h0T} : hn (B188 z) = 92 := by unfold B188; rw [hn_wr, hB187]
def B189 (z : h0T) : MH := wi (B188 z) 54 51 (-1 : Int32)
theorem hB189 {z : h0T} : hn (B189 z) = 92 := by unfold B189; rw [hn_wi, hB188]
def B190 (z : h0T) : MH := nw (B189 z) 20 40
theorem hB190 {z : h0T} : hn (B190 z) = 93 := by unfold B190; rw [hn_nw, hB189]
def B191 (z : h0T) : MH := wr (B190 z) 54 53 92
theorem hB191 {z : h0T} : hn (B191 z) = 93 := by unfold B191; rw [hn_wr, hB190]
def B192 (z : h0T) : MH := nw (B191 z) 20 40
theorem hB192 {z : h0T} : hn (B192 z) = 94 := by unfold B192; rw [hn_nw, hB191]
def B193 (z : h0T) : MH := wr (B192 z) 54 54 93
theorem hB193 {z : h0T} : hn (B193 z) = 94 := by unfold B193; rw [hn_wr, hB192]
def B194 (z : h0T) : MH := nw (B193 z) 21 40
theorem hB194 {z : h0T} : hn (B194 z) = 95 := by unfold B194; rw [hn_nw, hB193]
def B195 (z : h0T) : MH := wr (B194 z) 54 55 94
theorem hB195 {z : h0T} : hn (B195 z) = 95 := by unfold B195; rw [hn_wr, hB194]
def B196 (z : h0T) : MH := nw (B195 z) 20 9
theorem hB196 {z : h0T} : hn (B196 z) = 96 := by unfold B196; rw [hn_nw, hB195]
def B197 (z : h0T) : MH := wr (B196 z) 54 59 95
theorem hB197 {z : h0T} : hn (B197 z) = 96 := by unfold B197; rw [hn_wr, hB196]
def B198 (z : h0T) : MH := nw (B197 z) 20 3
theorem hB198 {z : h0T} : hn (B198 z) = 97 := by unfold B198; rw [hn_nw, hB197]
def B199 (z : h0T) : MH := wr (B198 z) 54 60 96
theorem hB199 {z : h0T} : hn (B199 z) = 97 := by unfold B199; rw [hn_wr, hB198]
def B200 (z : h0T) : MH := nw (B199 z) 20 200
theorem hB200 {z : h0T} : hn (B200 z) = 98 := by unfold B200; rw [hn_nw, hB199]
def B201 (z : h0T) : MH := wr (B200 z) 54 61 97
theorem hB201 {z : h0T} : hn (B201 z) = 98 := by unfold B201; rw [hn_wr, hB200]
def B202 (z : h0T) : MH := nw (B201 z) 20 400
theorem hB202 {z : h0T} : hn (B202 z) = 99 := by unfold B202; rw [hn_nw, hB201]
def B203 (z : h0T) : MH := wr (B202 z) 54 66 98
theorem hB203 {z : h0T} : hn (B203 z) = 99 := by unfold B203; rw [hn_wr, hB202]
theorem kB0_5 {z : h0T} : kd (B0 z) 5 = 12 := rfl
theorem kB1_6 {z : h0T} : kd (B1 z) 6 = 10 := by unfold B1; exact kd_new1 hB0
theorem kB2_6 {z : h0T} : kd (B2 z) 6 = 10 := by unfold B2; rw [kd_old (by rw [hB1]; decide)]; exact kB1_6
theorem kB3_6 {z : h0T} : kd (B3 z) 6 = 10 := by unfold B3; rw [kd_wr]; exact kB2_6
theorem kB4_6 {z : h0T} : kd (B4 z) 6 = 10 := by unfold B4; rw [kd_old (by rw [hB3]; decide)]; exact kB3_6
theorem kB5_6 {z : h0T} : kd (B5 z) 6 = 10 := by unfold B5; rw [kd_wr]; exact kB4_6
theorem kB6_6 {z : h0T} : kd (B6 z) 6 = 10 := by unfold B6; rw [kd_wi]; exact kB5_6
theorem kB7_6 {z : h0T} : kd (B7 z) 6 = 10 := by unfold B7; rw [kd_wi]; exact kB6_6
theorem kB10_9 {z : h0T} : kd (B10 z) 9 = 7 := by unfold B10; exact kd_new1 hB9
theorem kB8_6 {z : h0T} : kd (B8 z) 6 = 10 := by unfold B8; rw [kd_wi]; exact kB7_6
theorem kB9_6 {z : h0T} : kd (B9 z) 6 = 10 := by unfold B9; rw [kd_wi]; exact kB8_6
theorem kB10_6 {z : h0T} : kd (B10 z) 6 = 10 := by unfold B10; rw [kd_old (by rw [hB9]; decide)]; exact kB9_6
theorem kB11_6 {z : h0T} : kd (B11 z) 6 = 10 := by unfold B11; rw [kd_old (by rw [hB10]; decide)]; exact kB10_6
theorem kB12_6 {z : h0T} : kd (B12 z) 6 = 10 := by unfold B12; rw [kd_wr]; exact kB11_6
theorem kB13_6 {z : h0T} : kd (B13 z) 6 = 10 := by unfold B13; rw [kd_old (by rw [hB12]; decide)]; exact kB12_6
theorem kB14_6 {z : h0T} : kd (B14 z) 6 = 10 := by unfold B14; rw [kd_wr]; exact kB13_6
theorem kB15_6 {z : h0T} : kd (B15 z) 6 = 10 := by unfold B15; rw [kd_wr]; exact kB14_6
theorem kB16_6 {z : h0T} : kd (B16 z) 6 = 10 := by unfold B16; rw [kd_old (by rw [hB15]; decide)]; exact kB15_6
theorem kB17_6 {z : h0T} : kd (B17 z) 6 = 10 := by unfold B17; rw [kd_wr]; exact kB16_6
theorem kB1_5 {z : h0T} : kd (B1 z) 5 = 12 := by unfold B1; rw [kd_old (by rw [hB0]; decide)]; exact kB0_5
theorem kB2_5 {z : h0T} : kd (B2 z) 5 = 12 := by unfold B2; rw [kd_old (by rw [hB1]; decide)]; exact kB1_5
theorem kB3_5 {z : h0T} : kd (B3 z) 5 = 12 := by unfold B3; rw [kd_wr]; exact kB2_5
theorem kB4_5 {z : h0T} : kd (B4 z) 5 = 12 := by unfold B4; rw [kd_old (by rw [hB3]; decide)]; exact kB3_5
theorem kB5_5 {z : h0T} : kd (B5 z) 5 = 12 := by unfold B5; rw [kd_wr]; exact kB4_5
theorem kB6_5 {z : h0T} : kd (B6 z) 5 = 12 := by unfold B6; rw [kd_wi]; exact kB5_5
theorem kB7_5 {z : h0T} : kd (B7 z) 5 = 12 := by unfold B7; rw [kd_wi]; exact kB6_5
theorem kB8_5 {z : h0T} : kd (B8 z) 5 = 12 := by unfold B8; rw [kd_wi]; exact kB7_5
theorem kB9_5 {z : h0T} : kd (B9 z) 5 = 12 := by unfold B9; rw [kd_wi]; exact kB8_5
theorem kB10_5 {z : h0T} : kd (B10 z) 5 = 12 := by unfold B10; rw [kd_old (by rw [hB9]; decide)]; exact kB9_5
theorem kB11_5 {z : h0T} : kd (B11 z) 5 = 12 := by unfold B11; rw [kd_old (by rw [hB10]; decide)]; exact kB10_5
theorem kB12_5 {z : h0T} : kd (B12 z) 5 = 12 := by unfold B12; rw [kd_wr]; exact kB11_5
theorem kB13_5 {z : h0T} : kd (B13 z) 5 = 12 := by unfold B13; rw [kd_old (by rw [hB12]; decide)]; exact kB12_5
theorem kB14_5 {z : h0T} : kd (B14 z) 5 = 12 := by unfold B14; rw [kd_wr]; exact kB13_5
theorem kB15_5 {z : h0T} : kd (B15 z) 5 = 12 := by unfold B15; rw [kd_wr]; exact kB14_5
theorem kB16_5 {z : h0T} : kd (B16 z) 5 = 12 := by unfold B16; rw [kd_old (by rw [hB15]; decide)]; exact kB15_5
theorem kB17_5 {z : h0T} : kd (B17 z) 5 = 12 := by unfold B17; rw [kd_wr]; exact kB16_5
theorem kB18_5 {z : h0T} : kd (B18 z) 5 = 12 := by unfold B18; rw [kd_wi]; exact kB17_5
theorem kB19_5 {z : h0T} : kd (B19 z) 5 = 12 := by unfold B19; rw [kd_wr]; exact kB18_5
theorem kB20_5 {z : h0T} : kd (B20 z) 5 = 12 := by unfold B20; rw [kd_old (by rw [hB19]; decide)]; exact kB19_5
theorem kB21_5 {z : h0T} : kd (B21 z) 5 = 12 := by unfold B21; rw [kd_wr]; exact kB20_5
theorem kB22_5 {z : h0T} : kd (B22 z) 5 = 12 := by unfold B22; rw [kd_old (by rw [hB21]; decide)]; exact kB21_5
theorem kB23_5 {z : h0T} : kd (B23 z) 5 = 12 := by unfold B23; rw [kd_wr]; exact kB22_5
theorem kB25_15 {z : h0T} : kd (B25 z) 15 = 2 := by unfold B25; exact kd_new1 hB24
theorem kB26_16 {z : h0T} : kd (B26 z) 16 = 9 := by unfold B26; exact kd_new1 hB25
theorem kB26_15 {z : h0T} : kd (B26 z) 15 = 2 := by unfold B26; rw [kd_old (by rw [hB25]; decide)]; exact kB25_15
theorem kB27_15 {z : h0T} : kd (B27 z) 15 = 2 := by unfold B27; rw [kd_wi]; exact kB26_15
theorem kB28_15 {z : h0T} : kd (B28 z) 15 = 2 := by unfold B28; rw [kd_old (by rw [hB27]; decide)]; exact kB27_15
theorem kB29_15 {z : h0T} : kd (B29 z) 15 = 2 := by unfold B29; rw [kd_wr]; exact kB28_15
theorem kB30_15 {z : h0T} : kd (B30 z) 15 = 2 := by unfold B30; rw [kd_wr]; exact kB29_15
theorem kB31_15 {z : h0T} : kd (B31 z) 15 = 2 := by unfold B31; rw [kd_old (by rw [hB30]; decide)]; exact kB30_15
theorem kB32_15 {z : h0T} : kd (B32 z) 15 = 2 := by unfold B32; rw [kd_wr]; exact kB31_15
theorem kB33_15 {z : h0T} : kd (B33 z) 15 = 2 := by unfold B33; rw [kd_old (by rw [hB32]; decide)]; exact kB32_15
theorem kB34_15 {z : h0T} : kd (B34 z) 15 = 2 := by unfold B34; rw [kd_wr]; exact kB33_15
theorem kB36_20 {z : h0T} : kd (B36 z) 20 = 7 := by unfold B36; exact kd_new1 hB35
theorem kB35_15 {z : h0T} : kd (B35 z) 15 = 2 := by unfold B35; rw [kd_wi]; exact kB34_15
theorem kB36_15 {z : h0T} : kd (B36 z) 15 = 2 := by unfold B36; rw [kd_old (by rw [hB35]; decide)]; exact kB35_15
theorem kB37_15 {z : h0T} : kd (B37 z) 15 = 2 := by unfold B37; rw [kd_old (by rw [hB36]; decide)]; exact kB36_15
theorem kB38_15 {z : h0T} : kd (B38 z) 15 = 2 := by unfold B38; rw [kd_wr]; exact kB37_15
theorem kB39_15 {z : h0T} : kd (B39 z) 15 = 2 := by unfold B39; rw [kd_old (by rw [hB38]; decide)]; exact kB38_15
theorem kB40_15 {z : h0T} : kd (B40 z) 15 = 2 := by unfold B40; rw [kd_wr]; exact kB39_15
theorem kB42_23 {z : h0T} : kd (B42 z) 23 = 7 := by unfold B42; exact kd_new1 hB41
theorem kB41_15 {z : h0T} : kd (B41 z) 15 = 2 := by unfold B41; rw [kd_wr]; exact kB40_15
theorem kB42_15 {z : h0T} : kd (B42 z) 15 = 2 := by unfold B42; rw [kd_old (by rw [hB41]; decide)]; exact kB41_15
theorem kB43_15 {z : h0T} : kd (B43 z) 15 = 2 := by unfold B43; rw [kd_old (by rw [hB42]; decide)]; exact kB42_15
theorem kB44_15 {z : h0T} : kd (B44 z) 15 = 2 := by unfold B44; rw [kd_wr]; exact kB43_15
theorem kB45_15 {z : h0T} : kd (B45 z) 15 = 2 := by unfold B45; rw [kd_old (by rw [hB44]; decide)]; exact kB44_15
theorem kB46_15 {z : h0T} : kd (B46 z) 15 = 2 := by unfold B46; rw [kd_wr]; exact kB45_15
theorem kB48_26 {z : h0T} : kd (B48 z) 26 = 7 := by unfold B48; exact kd_new1 hB47
theorem kB47_15 {z : h0T} : kd (B47 z) 15 = 2 := by unfold B47; rw [kd_wr]; exact kB46_15
theorem kB48_15 {z : h0T} : kd (B48 z) 15 = 2 := by unfold B48; rw [kd_old (by rw [hB47]; decide)]; exact kB47_15
theorem kB49_15 {z : h0T} : kd (B49 z) 15 = 2 := by unfold B49; rw [kd_old (by rw [hB48]; decide)]; exact kB48_15
theorem kB50_15 {z : h0T} : kd (B50 z) 15 = 2 := by unfold B50; rw [kd_wr]; exact kB49_15
theorem kB51_15 {z : h0T} : kd (B51 z) 15 = 2 := by unfold B51; rw [kd_old (by rw [hB50]; decide)]; exact kB50_15
theorem kB52_15 {z : h0T} : kd (B52 z) 15 = 2 := by unfold B52; rw [kd_wr]; exact kB51_15
theorem kB24_5 {z : h0T} : kd (B24 z) 5 = 12 := by unfold B24; rw [kd_wi]; exact kB23_5
theorem kB25_5 {z : h0T} : kd (B25 z) 5 = 12 := by unfold B25; rw [kd_old (by rw [hB24]; decide)]; exact kB24_5
theorem kB26_5 {z : h0T} : kd (B26 z) 5 = 12 := by unfold B26; rw [kd_old (by rw [hB25]; decide)]; exact kB25_5
theorem kB27_5 {z : h0T} : kd (B27 z) 5 = 12 := by unfold B27; rw [kd_wi]; exact kB26_5
theorem kB28_5 {z : h0T} : kd (B28 z) 5 = 12 := by unfold B28; rw [kd_old (by rw [hB27]; decide)]; exact kB27_5
theorem kB29_5 {z : h0T} : kd (B29 z) 5 = 12 := by unfold B29; rw [kd_wr]; exact kB28_5
theorem kB30_5 {z : h0T} : kd (B30 z) 5 = 12 := by unfold B30; rw [kd_wr]; exact kB29_5
theorem kB31_5 {z : h0T} : kd (B31 z) 5 = 12 := by unfold B31; rw [kd_old (by rw [hB30]; decide)]; exact kB30_5
theorem kB32_5 {z : h0T} : kd (B32 z) 5 = 12 := by unfold B32; rw [kd_wr]; exact kB31_5
theorem kB33_5 {z : h0T} : kd (B33 z) 5 = 12 := by unfold B33; rw [kd_old (by rw [hB32]; decide)]; exact kB32_5
theorem kB34_5 {z : h0T} : kd (B34 z) 5 = 12 := by unfold B34; rw [kd_wr]; exact kB33_5
theorem kB35_5 {z : h0T} : kd (B35 z) 5 = 12 := by unfold B35; rw [kd_wi]; exact kB34_5
theorem kB36_5 {z : h0T} : kd (B36 z) 5 = 12 := by unfold B36; rw [kd_old (by rw [hB35]; decide)]; exact kB35_5
theorem kB37_5 {z : h0T} : kd (B37 z) 5 = 12 := by unfold B37; rw [kd_old (by rw [hB36]; decide)]; exact kB36_5
theorem kB38_5 {z : h0T} : kd (B38 z) 5 = 12 := by unfold B38; rw [kd_wr]; exact kB37_5
theorem kB39_5 {z : h0T} : kd (B39 z) 5 = 12 := by unfold B39; rw [kd_old (by rw [hB38]; decide)]; exact kB38_5
theorem kB40_5 {z : h0T} : kd (B40 z) 5 = 12 := by unfold B40; rw [kd_wr]; exact kB39_5
theorem kB41_5 {z : h0T} : kd (B41 z) 5 = 12 := by unfold B41; rw [kd_wr]; exact kB40_5
theorem kB42_5 {z : h0T} : kd (B42 z) 5 = 12 := by unfold B42; rw [kd_old (by rw [hB41]; decide)]; exact kB41_5
theorem kB43_5 {z : h0T} : kd (B43 z) 5 = 12 := by unfold B43; rw [kd_old (by rw [hB42]; decide)]; exact kB42_5
theorem kB44_5 {z : h0T} : kd (B44 z) 5 = 12 := by unfold B44; rw [kd_wr]; exact kB43_5
theorem kB45_5 {z : h0T} : kd (B45 z) 5 = 12 := by unfold B45; rw [kd_old (by rw [hB44]; decide)]; exact kB44_5
theorem kB46_5 {z : h0T} : kd (B46 z) 5 = 12 := by unfold B46; rw [kd_wr]; exact kB45_5
theorem kB47_5 {z : h0T} : kd (B47 z) 5 = 12 := by unfold B47; rw [kd_wr]; exact kB46_5
theorem kB48_5 {z : h0T} : kd (B48 z) 5 = 12 := by unfold B48; rw [kd_old (by rw [hB47]; decide)]; exact kB47_5
theorem kB49_5 {z : h0T} : kd (B49 z) 5 = 12 := by unfold B49; rw [kd_old (by rw [hB48]; decide)]; exact kB48_5
theorem kB50_5 {z : h0T} : kd (B50 z) 5 = 12 := by unfold B50; rw [kd_wr]; exact kB49_5
theorem kB51_5 {z : h0T} : kd (B51 z) 5 = 12 := by unfold B51; rw [kd_old (by rw [hB50]; decide)]; exact kB50_5
theorem kB52_5 {z : h0T} : kd (B52 z) 5 = 12 := by unfold B52; rw [kd_wr]; exact kB51_5
theorem kB53_5 {z : h0T} : kd (B53 z) 5 = 12 := by unfold B53; rw [kd_wr]; exact kB52_5
theorem kB54_5 {z : h0T} : kd (B54 z) 5 = 12 := by unfold B54; rw [kd_wr]; exact kB53_5
theorem kB55_5 {z : h0T} : kd (B55 z) 5 = 12 := by unfold B55; rw [kd_old (by rw [hB54]; decide)]; exact kB54_5
theorem kB56_5 {z : h0T} : kd (B56 z) 5 = 12 := by unfold B56; rw [kd_wr]; exact kB55_5
theorem kB58_30 {z : h0T} : kd (B58 z) 30 = 7 := by unfold B58; exact kd_new1 hB57
theorem kB57_5 {z : h0T} : kd (B57 z) 5 = 12 := by unfold B57; rw [kd_wi]; exact kB56_5
theorem kB58_5 {z : h0T} : kd (B58 z) 5 = 12 := by unfold B58; rw [kd_old (by rw [hB57]; decide)]; exact kB57_5
theorem kB59_5 {z : h0T} : kd (B59 z) 5 = 12 := by unfold B59; rw [kd_old (by rw [hB58]; decide)]; exact kB58_5
theorem kB60_5 {z : h0T} : kd (B60 z) 5 = 12 := by unfold B60; rw [kd_wr]; exact kB59_5
theorem kB61_5 {z : h0T} : kd (B61 z) 5 = 12 := by unfold B61; rw [kd_old (by rw [hB60]; decide)]; exact kB60_5
theorem kB62_5 {z : h0T} : kd (B62 z) 5 = 12 := by unfold B62; rw [kd_wr]; exact kB61_5
theorem kB64_33 {z : h0T} : kd (B64 z) 33 = 7 := by unfold B64; exact kd_new1 hB63
theorem kB63_5 {z : h0T} : kd (B63 z) 5 = 12 := by unfold B63; rw [kd_wr]; exact kB62_5
theorem kB64_5 {z : h0T} : kd (B64 z) 5 = 12 := by unfold B64; rw [kd_old (by rw [hB63]; decide)]; exact kB63_5
theorem kB65_5 {z : h0T} : kd (B65 z) 5 = 12 := by unfold B65; rw [kd_old (by rw [hB64]; decide)]; exact kB64_5
theorem kB66_5 {z : h0T} : kd (B66 z) 5 = 12 := by unfold B66; rw [kd_wr]; exact kB65_5
theorem kB67_5 {z : h0T} : kd (B67 z) 5 = 12 := by unfold B67; rw [kd_old (by rw [hB66]; decide)]; exact kB66_5
theorem kB68_5 {z : h0T} : kd (B68 z) 5 = 12 := by unfold B68; rw [kd_wr]; exact kB67_5
theorem kB70_36 {z : h0T} : kd (B70 z) 36 = 7 := by unfold B70; exact kd_new1 hB69
theorem kB69_5 {z : h0T} : kd (B69 z) 5 = 12 := by unfold B69; rw [kd_wr]; exact kB68_5
theorem kB70_5 {z : h0T} : kd (B70 z) 5 = 12 := by unfold B70; rw [kd_old (by rw [hB69]; decide)]; exact kB69_5
theorem kB71_5 {z : h0T} : kd (B71 z) 5 = 12 := by unfold B71; rw [kd_old (by rw [hB70]; decide)]; exact kB70_5
theorem kB72_5 {z : h0T} : kd (B72 z) 5 = 12 := by unfold B72; rw [kd_wr]; exact kB71_5
theorem kB73_5 {z : h0T} : kd (B73 z) 5 = 12 := by unfold B73; rw [kd_old (by rw [hB72]; decide)]; exact kB72_5
theorem kB74_5 {z : h0T} : kd (B74 z) 5 = 12 := by unfold B74; rw [kd_wr]; exact kB73_5
theorem kB76_39 {z : h0T} : kd (B76 z) 39 = 9 := by unfold B76; exact kd_new1 hB75
theorem kB75_5 {z : h0T} : kd (B75 z) 5 = 12 := by unfold B75; rw [kd_wr]; exact kB74_5
theorem kB76_5 {z : h0T} : kd (B76 z) 5 = 12 := by unfold B76; rw [kd_old (by rw [hB75]; decide)]; exact kB75_5
theorem kB77_5 {z : h0T} : kd (B77 z) 5 = 12 := by unfold B77; rw [kd_wi]; exact kB76_5
theorem kB78_5 {z : h0T} : kd (B78 z) 5 = 12 := by unfold B78; rw [kd_old (by rw [hB77]; decide)]; exact kB77_5
theorem kB79_5 {z : h0T} : kd (B79 z) 5 = 12 := by unfold B79; rw [kd_wr]; exact kB78_5
theorem kB80_5 {z : h0T} : kd (B80 z) 5 = 12 := by unfold B80; rw [kd_wr]; exact kB79_5
theorem kB81_5 {z : h0T} : kd (B81 z) 5 = 12 := by unfold B81; rw [kd_old (by rw [hB80]; decide)]; exact kB80_5
theorem kB82_5 {z : h0T} : kd (B82 z) 5 = 12 := by unfold B82; rw [kd_wr]; exact kB81_5
theorem kB83_5 {z : h0T} : kd (B83 z) 5 = 12 := by unfold B83; rw [kd_old (by rw [hB82]; decide)]; exact kB82_5
theorem kB84_5 {z : h0T} : kd (B84 z) 5 = 12 := by unfold B84; rw [kd_wr]; exact kB83_5
theorem kB85_5 {z : h0T} : kd (B85 z) 5 = 12 := by unfold B85; rw [kd_old (by rw [hB84]; decide)]; exact kB84_5
theorem kB86_5 {z : h0T} : kd (B86 z) 5 = 12 := by unfold B86; rw [kd_wr]; exact kB85_5
theorem kB87_5 {z : h0T} : kd (B87 z) 5 = 12 := by unfold B87; rw [kd_wi]; exact kB86_5
theorem kB88_5 {z : h0T} : kd (B88 z) 5 = 12 := by unfold B88; rw [kd_old (by rw [hB87]; decide)]; exact kB87_5
theorem kB89_5 {z : h0T} : kd (B89 z) 5 = 12 := by unfold B89; rw [kd_wr]; exact kB88_5
theorem kB91_45 {z : h0T} : kd (B91 z) 45 = 11 := by unfold B91; exact kd_new1 hB90
theorem kB92_45 {z : h0T} : kd (B92 z) 45 = 11 := by unfold B92; rw [kd_old (by rw [hB91]; decide)]; exact kB91_45
theorem kB93_45 {z : h0T} : kd (B93 z) 45 = 11 := by unfold B93; rw [kd_wr]; exact kB92_45
theorem kB94_45 {z : h0T} : kd (B94 z) 45 = 11 := by unfold B94; rw [kd_old (by rw [hB93]; decide)]; exact kB93_45
theorem kB95_45 {z : h0T} : kd (B95 z) 45 = 11 := by unfold B95; rw [kd_wr]; exact kB94_45
theorem kB96_45 {z : h0T} : kd (B96 z) 45 = 11 := by unfold B96; rw [kd_old (by rw [hB95]; decide)]; exact kB95_45
theorem kB97_45 {z : h0T} : kd (B97 z) 45 = 11 := by unfold B97; rw [kd_wr]; exact kB96_45
theorem kB98_45 {z : h0T} : kd (B98 z) 45 = 11 := by unfold B98; rw [kd_old (by rw [hB97]; decide)]; exact kB97_45
theorem kB90_5 {z : h0T} : kd (B90 z) 5 = 12 := by unfold B90; rw [kd_wi]; exact kB89_5
theorem kB91_5 {z : h0T} : kd (B91 z) 5 = 12 := by unfold B91; rw [kd_old (by rw [hB90]; decide)]; exact kB90_5
theorem kB92_5 {z : h0T} : kd (B92 z) 5 = 12 := by unfold B92; rw [kd_old (by rw [hB91]; decide)]; exact kB91_5
theorem kB93_5 {z : h0T} : kd (B93 z) 5 = 12 := by unfold B93; rw [kd_wr]; exact kB92_5
theorem kB94_5 {z : h0T} : kd (B94 z) 5 = 12 := by unfold B94; rw [kd_old (by rw [hB93]; decide)]; exact kB93_5
theorem kB95_5 {z : h0T} : kd (B95 z) 5 = 12 := by unfold B95; rw [kd_wr]; exact kB94_5
theorem kB96_5 {z : h0T} : kd (B96 z) 5 = 12 := by unfold B96; rw [kd_old (by rw [hB95]; decide)]; exact kB95_5
theorem kB97_5 {z : h0T} : kd (B97 z) 5 = 12 := by unfold B97; rw [kd_wr]; exact kB96_5
theorem kB98_5 {z : h0T} : kd (B98 z) 5 = 12 := by unfold B98; rw [kd_old (by rw [hB97]; decide)]; exact kB97_5
theorem kB99_5 {z : h0T} : kd (B99 z) 5 = 12 := by unfold B99; rw [kd_wr]; exact kB98_5
theorem kB101_50 {z : h0T} : kd (B101 z) 50 = 8 := by unfold B101; exact kd_new1 hB100
theorem kB102_50 {z : h0T} : kd (B102 z) 50 = 8 := by unfold B102; rw [kd_old (by rw [hB101]; decide)]; exact kB101_50
theorem kB103_50 {z : h0T} : kd (B103 z) 50 = 8 := by unfold B103; rw [kd_wr]; exact kB102_50
theorem kB104_50 {z : h0T} : kd (B104 z) 50 = 8 := by unfold B104; rw [kd_old (by rw [hB103]; decide)]; exact kB103_50
theorem kB105_50 {z : h0T} : kd (B105 z) 50 = 8 := by unfold B105; rw [kd_wr]; exact kB104_50
theorem kB106_50 {z : h0T} : kd (B106 z) 50 = 8 := by unfold B106; rw [kd_old (by rw [hB105]; decide)]; exact kB105_50
theorem kB107_50 {z : h0T} : kd (B107 z) 50 = 8 := by unfold B107; rw [kd_wr]; exact kB106_50
theorem kB108_50 {z : h0T} : kd (B108 z) 50 = 8 := by unfold B108; rw [kd_wi]; exact kB107_50
theorem kB109_50 {z : h0T} : kd (B109 z) 50 = 8 := by unfold B109; rw [kd_wl]; exact kB108_50
theorem kB100_5 {z : h0T} : kd (B100 z) 5 = 12 := by unfold B100; rw [kd_wr]; exact kB99_5
theorem kB101_5 {z : h0T} : kd (B101 z) 5 = 12 := by unfold B101; rw [kd_old (by rw [hB100]; decide)]; exact kB100_5
theorem kB102_5 {z : h0T} : kd (B102 z) 5 = 12 := by unfold B102; rw [kd_old (by rw [hB101]; decide)]; exact kB101_5
theorem kB103_5 {z : h0T} : kd (B103 z) 5 = 12 := by unfold B103; rw [kd_wr]; exact kB102_5
theorem kB104_5 {z : h0T} : kd (B104 z) 5 = 12 := by unfold B104; rw [kd_old (by rw [hB103]; decide)]; exact kB103_5
theorem kB105_5 {z : h0T} : kd (B105 z) 5 = 12 := by unfold B105; rw [kd_wr]; exact kB104_5
theorem kB106_5 {z : h0T} : kd (B106 z) 5 = 12 := by unfold B106; rw [kd_old (by rw [hB105]; decide)]; exact kB105_5
theorem kB107_5 {z : h0T} : kd (B107 z) 5 = 12 := by unfold B107; rw [kd_wr]; exact kB106_5
theorem kB108_5 {z : h0T} : kd (B108 z) 5 = 12 := by unfold B108; rw [kd_wi]; exact kB107_5
theorem kB109_5 {z : h0T} : kd (B109 z) 5 = 12 := by unfold B109; rw [kd_wl]; exact kB108_5
theorem kB110_5 {z : h0T} : kd (B110 z) 5 = 12 := by unfold B110; rw [kd_wl]; exact kB109_5
theorem kB112_54 {z : h0T} : kd (B112 z) 54 = 13 := by unfold B112; exact kd_new1 hB111
theorem kB113_54 {z : h0T} : kd (B113 z) 54 = 13 := by unfold B113; rw [kd_old (by rw [hB112]; decide)]; exact kB112_54
theorem kB114_54 {z : h0T} : kd (B114 z) 54 = 13 := by unfold B114; rw [kd_wr]; exact kB113_54
theorem kB115_54 {z : h0T} : kd (B115 z) 54 = 13 := by unfold B115; rw [kd_old (by rw [hB114]; decide)]; exact kB114_54
theorem kB116_54 {z : h0T} : kd (B116 z) 54 = 13 := by unfold B116; rw [kd_wr]; exact kB115_54
theorem kB117_54 {z : h0T} : kd (B117 z) 54 = 13 := by unfold B117; rw [kd_old (by rw [hB116]; decide)]; exact kB116_54
theorem kB118_54 {z : h0T} : kd (B118 z) 54 = 13 := by unfold B118; rw [kd_wr]; exact kB117_54
theorem kB119_54 {z : h0T} : kd (B119 z) 54 = 13 := by unfold B119; rw [kd_old (by rw [hB118]; decide)]; exact kB118_54
theorem kB120_54 {z : h0T} : kd (B120 z) 54 = 13 := by unfold B120; rw [kd_wr]; exact kB119_54
theorem kB121_54 {z : h0T} : kd (B121 z) 54 = 13 := by unfold B121; rw [kd_old (by rw [hB120]; decide)]; exact kB120_54
theorem kB122_54 {z : h0T} : kd (B122 z) 54 = 13 := by unfold B122; rw [kd_wr]; exact kB121_54
theorem kB123_54 {z : h0T} : kd (B123 z) 54 = 13 := by unfold B123; rw [kd_old (by rw [hB122]; decide)]; exact kB122_54
theorem kB124_54 {z : h0T} : kd (B124 z) 54 = 13 := by unfold B124; rw [kd_wr]; exact kB123_54
theorem kB125_54 {z : h0T} : kd (B125 z) 54 = 13 := by unfold B125; rw [kd_old (by rw [hB124]; decide)]; exact kB124_54
theorem kB126_54 {z : h0T} : kd (B126 z) 54 = 13 := by unfold B126; rw [kd_wr]; exact kB125_54
theorem kB127_54 {z : h0T} : kd (B127 z) 54 = 13 := by unfold B127; rw [kd_old (by rw [hB126]; decide)]; exact kB126_54
theorem kB128_54 {z : h0T} : kd (B128 z) 54 = 13 := by unfold B128; rw [kd_wr]; exact kB127_54
theorem kB129_54 {z : h0T} : kd (B129 z) 54 = 13 := by unfold B129; rw [kd_wi]; exact kB128_54
theorem kB130_54 {z : h0T} : kd (B130 z) 54 = 13 := by unfold B130; rw [kd_old (by rw [hB129]; decide)]; exact kB129_54
theorem kB131_54 {z : h0T} : kd (B131 z) 54 = 13 := by unfold B131; rw [kd_wr]; exact kB130_54
theorem kB132_54 {z : h0T} : kd (B132 z) 54 = 13 := by unfold B132; rw [kd_old (by rw [hB131]; decide)]; exact kB131_54
theorem kB133_54 {z : h0T} : kd (B133 z) 54 = 13 := by unfold B133; rw [kd_wr]; exact kB132_54
theorem kB134_54 {z : h0T} : kd (B134 z) 54 = 13 := by unfold B134; rw [kd_old (by rw [hB133]; decide)]; exact kB133_54
theorem kB135_54 {z : h0T} : kd (B135 z) 54 = 13 := by unfold B135; rw [kd_wr]; exact kB134_54
theorem kB136_54 {z : h0T} : kd (B136 z) 54 = 13 := by unfold B136; rw [kd_old (by rw [hB135]; decide)]; exact kB135_54
theorem kB137_54 {z : h0T} : kd (B137 z) 54 = 13 := by unfold B137; rw [kd_wr]; exact kB136_54
theorem kB138_54 {z : h0T} : kd (B138 z) 54 = 13 := by unfold B138; rw [kd_old (by rw [hB137]; decide)]; exact kB137_54
theorem kB139_54 {z : h0T} : kd (B139 z) 54 = 13 := by unfold B139; rw [kd_wr]; exact kB138_54
theorem kB140_54 {z : h0T} : kd (B140 z) 54 = 13 := by unfold B140; rw [kd_old (by rw [hB139]; decide)]; exact kB139_54
theorem kB141_54 {z : h0T} : kd (B141 z) 54 = 13 := by unfold B141; rw [kd_wr]; exact kB140_54
theorem kB142_54 {z : h0T} : kd (B142 z) 54 = 13 := by unfold B142; rw [kd_old (by rw [hB141]; decide)]; exact kB141_54
theorem kB143_54 {z : h0T} : kd (B143 z) 54 = 13 := by unfold B143; rw [kd_wr]; exact kB142_54
theorem kB144_54 {z : h0T} : kd (B144 z) 54 = 13 := by unfold B144; rw [kd_old (by rw [hB143]; decide)]; exact kB143_54
theorem kB145_54 {z : h0T} : kd (B145 z) 54 = 13 := by unfold B145; rw [kd_wr]; exact kB144_54
theorem kB146_54 {z : h0T} : kd (B146 z) 54 = 13 := by unfold B146; rw [kd_old (by rw [hB145]; decide)]; exact kB145_54
theorem kB147_54 {z : h0T} : kd (B147 z) 54 = 13 := by unfold B147; rw [kd_wr]; exact kB146_54
theorem kB148_54 {z : h0T} : kd (B148 z) 54 = 13 := by unfold B148; rw [kd_old (by rw [hB147]; decide)]; exact kB147_54
theorem kB149_54 {z : h0T} : kd (B149 z) 54 = 13 := by unfold B149; rw [kd_wr]; exact kB148_54
theorem kB150_54 {z : h0T} : kd (B150 z) 54 = 13 := by unfold B150; rw [kd_old (by rw [hB149]; decide)]; exact kB149_54
theorem kB151_54 {z : h0T} : kd (B151 z) 54 = 13 := by unfold B151; rw [kd_wr]; exact kB150_54
theorem kB152_54 {z : h0T} : kd (B152 z) 54 = 13 := by unfold B152; rw [kd_old (by rw [hB151]; decide)]; exact kB151_54
theorem kB153_54 {z : h0T} : kd (B153 z) 54 = 13 := by unfold B153; rw [kd_wr]; exact kB152_54
theorem kB154_54 {z : h0T} : kd (B154 z) 54 = 13 := by unfold B154; rw [kd_old (by rw [hB153]; decide)]; exact kB153_54
theorem kB155_54 {z : h0T} : kd (B155 z) 54 = 13 := by unfold B155; rw [kd_wr]; exact kB154_54
theorem kB156_54 {z : h0T} : kd (B156 z) 54 = 13 := by unfold B156; rw [kd_old (by rw [hB155]; decide)]; exact kB155_54
theorem kB157_54 {z : h0T} : kd (B157 z) 54 = 13 := by unfold B157; rw [kd_wr]; exact kB156_54
theorem kB158_54 {z : h0T} : kd (B158 z) 54 = 13 := by unfold B158; rw [kd_old (by rw [hB157]; decide)]; exact kB157_54
theorem kB159_54 {z : h0T} : kd (B159 z) 54 = 13 := by unfold B159; rw [kd_wr]; exact kB158_54
theorem kB160_54 {z : h0T} : kd (B160 z) 54 = 13 := by unfold B160; rw [kd_old (by rw [hB159]; decide)]; exact kB159_54
theorem kB161_54 {z : h0T} : kd (B161 z) 54 = 13 := by unfold B161; rw [kd_wr]; exact kB160_54
theorem kB162_54 {z : h0T} : kd (B162 z) 54 = 13 := by unfold B162; rw [kd_old (by rw [hB161]; decide)]; exact kB161_54
theorem kB163_54 {z : h0T} : kd (B163 z) 54 = 13 := by unfold B163; rw [kd_wr]; exact kB162_54
theorem kB164_54 {z : h0T} : kd (B164 z) 54 = 13 := by unfold B164; rw [kd_old (by rw [hB163]; decide)]; exact kB163_54
theorem kB165_54 {z : h0T} : kd (B165 z) 54 = 13 := by unfold B165; rw [kd_wr]; exact kB164_54
theorem kB166_54 {z : h0T} : kd (B166 z) 54 = 13 := by unfold B166; rw [kd_wi]; exact kB165_54
theorem kB167_54 {z : h0T} : kd (B167 z) 54 = 13 := by unfold B167; rw [kd_old (by rw [hB166]; decide)]; exact kB166_54
theorem kB168_54 {z : h0T} : kd (B168 z) 54 = 13 := by unfold B168; rw [kd_wr]; exact kB167_54
theorem kB169_54 {z : h0T} : kd (B169 z) 54 = 13 := by unfold B169; rw [kd_old (by rw [hB168]; decide)]; exact kB168_54
theorem kB170_54 {z : h0T} : kd (B170 z) 54 = 13 := by unfold B170; rw [kd_wr]; exact kB169_54
theorem kB171_54 {z : h0T} : kd (B171 z) 54 = 13 := by unfold B171; rw [kd_old (by rw [hB170]; decide)]; exact kB170_54
theorem kB172_54 {z : h0T} : kd (B172 z) 54 = 13 := by unfold B172; rw [kd_wr]; exact kB171_54
theorem kB173_54 {z : h0T} : kd (B173 z) 54 = 13 := by unfold B173; rw [kd_old (by rw [hB172]; decide)]; exact kB172_54
theorem kB174_54 {z : h0T} : kd (B174 z) 54 = 13 := by unfold B174; rw [kd_wr]; exact kB173_54
theorem kB175_54 {z : h0T} : kd (B175 z) 54 = 13 := by unfold B175; rw [kd_old (by rw [hB174]; decide)]; exact kB174_54
theorem kB176_54 {z : h0T} : kd (B176 z) 54 = 13 := by unfold B176; rw [kd_wr]; exact kB175_54
theorem kB177_54 {z : h0T} : kd (B177 z) 54 = 13 := by unfold B177; rw [kd_old (by rw [hB176]; decide)]; exact kB176_54
theorem kB178_54 {z : h0T} : kd (B178 z) 54 = 13 := by unfold B178; rw [kd_wr]; exact kB177_54
theorem kB179_54 {z : h0T} : kd (B179 z) 54 = 13 := by unfold B179; rw [kd_old (by rw [hB178]; decide)]; exact kB178_54
theorem kB180_54 {z : h0T} : kd (B180 z) 54 = 13 := by unfold B180; rw [kd_wr]; exact kB179_54
theorem kB181_54 {z : h0T} : kd (B181 z) 54 = 13 := by unfold B181; rw [kd_old (by rw [hB180]; decide)]; exact kB180_54
theorem kB182_54 {z : h0T} : kd (B182 z) 54 = 13 := by unfold B182; rw [kd_wr]; exact kB181_54
theorem kB183_54 {z : h0T} : kd (B183 z) 54 = 13 := by unfold B183; rw [kd_old (by rw [hB182]; decide)]; exact kB182_54
theorem kB184_54 {z : h0T} : kd (B184 z) 54 = 13 := by unfold B184; rw [kd_wr]; exact kB183_54
theorem kB185_54 {z : h0T} : kd (B185 z) 54 = 13 := by unfold B185; rw [kd_old (by rw [hB184]; decide)]; exact kB184_54
theorem kB186_54 {z : h0T} : kd (B186 z) 54 = 13 := by unfold B186; rw [kd_wr]; exact kB185_54
theorem kB187_54 {z : h0T} : kd (B187 z) 54 = 13 := by unfold B187; rw [kd_old (by rw [hB186]; decide)]; exact kB186_54
theorem kB188_54 {z : h0T} : kd (B188 z) 54 = 13 := by unfold B188; rw [kd_wr]; exact kB187_54
theorem kB189_54 {z : h0T} : kd (B189 z) 54 = 13 := by unfold B189; rw [kd_wi]; exact kB188_54
theorem kB190_54 {z : h0T} : kd (B190 z) 54 = 13 := by unfold B190; rw [kd_old (by rw [hB189]; decide)]; exact kB189_54
theorem kB191_54 {z : h0T} : kd (B191 z) 54 = 13 := by unfold B191; rw [kd_wr]; exact kB190_54
theorem kB192_54 {z : h0T} : kd (B192 z) 54 = 13 := by unfold B192; rw [kd_old (by rw [hB191]; decide)]; exact kB191_54
theorem kB193_54 {z : h0T} : kd (B193 z) 54 = 13 := by unfold B193; rw [kd_wr]; exact kB192_54
theorem kB194_54 {z : h0T} : kd (B194 z) 54 = 13 := by unfold B194; rw [kd_old (by rw [hB193]; decide)]; exact kB193_54
theorem kB195_54 {z : h0T} : kd (B195 z) 54 = 13 := by unfold B195; rw [kd_wr]; exact kB194_54
theorem kB196_54 {z : h0T} : kd (B196 z) 54 = 13 := by unfold B196; rw [kd_old (by rw [hB195]; decide)]; exact kB195_54
theorem kB197_54 {z : h0T} : kd (B197 z) 54 = 13 := by unfold B197; rw [kd_wr]; exact kB196_54
theorem kB198_54 {z : h0T} : kd (B198 z) 54 = 13 := by unfold B198; rw [kd_old (by rw [hB197]; decide)]; exact kB197_54
theorem kB199_54 {z : h0T} : kd (B199 z) 54 = 13 := by unfold B199; rw [kd_wr]; exact kB198_54
theorem kB200_54 {z : h0T} : kd (B200 z) 54 = 13 := by unfold B200; rw [kd_old (by rw [hB199]; decide)]; exact kB199_54
theorem kB201_54 {z : h0T} : kd (B201 z) 54 = 13 := by unfold B201; rw [kd_wr]; exact kB200_54
theorem kB202_54 {z : h0T} : kd (B202 z) 54 = 13 := by unfold B202; rw [kd_old (by rw [hB201]; decide)]; exact kB201_54
theorem law_start (z : h0T) (Rt : Value → MH → Prop) (W1 : WM k_Law_law p_Law_law_1 [.ref 1, .ref 5, .ref 54, .int (0 : Int32)] [] (B203 z) 94 110249 Rt) : WM k_Law_law 0 (ent (lM k_Law_law) [.ref 1]) [] (5, z) 0 0 Rt := by
  refine w_Law_law 1 _ _ ?_
  rintro _ rfl
  try simp only [hn_wr, hn_wi, hn_wl, ix3, ix4, ix6, ix8, ix9, ix12, ix13, ix16, ix20, ix24, ix40, ix48, ix60, ix100, ix192, ix200, ix240, ix400, ix2200, ix3000, ix6000, ix8800, ix11520, ix23040, ix36864, show hn ((5, z) : MH) = 5 from rfl, show nw (5, z) 12 0 = B0 z from rfl]
  refine ⟨kB0_5, ?_⟩
  refine v_Ho_init _ _ _ ?_
  refine ⟨by decide, ?_⟩
  rintro _ rfl
  try simp only [hB0, hn_wr, hn_wi, hn_wl, ix3, ix4, ix6, ix8, ix9, ix12, ix13, ix16, ix20, ix24, ix40, ix48, ix60, ix100, ix192, ix200, ix240, ix400, ix2200, ix3000, ix6000, ix8800, ix11520, ix23040, ix36864, show hn ((5, z) : MH) = 5 from rfl, show nw (B0 z) 10 0 = B1 z from rfl]
  refine ⟨kB1_6, ?_⟩
  refine v_Scribe_init _ _ _ ?_
  refine ⟨by decide, ?_⟩
  rintro _ rfl
  try simp only [hB1, hn_wr, hn_wi, hn_wl, ix3, ix4, ix6, ix8, ix9, ix12, ix13, ix16, ix20, ix24, ix40, ix48, ix60, ix100, ix192, ix200, ix240, ix400, ix2200, ix3000, ix6000, ix8800, ix11520, ix23040, ix36864, show hn ((5, z) : MH) = 5 from rfl, show nw (B1 z) 20 20 = B2 z from rfl]
  refine ⟨kB2_6, ?_⟩
  rintro _ rfl
  try simp only [hB2, hn_wr, hn_wi, hn_wl, ix3, ix4, ix6, ix8, ix9, ix12, ix13, ix16, ix20, ix24, ix40, ix48, ix60, ix100, ix192, ix200, ix240, ix400, ix2200, ix3000, ix6000, ix8800, ix11520, ix23040, ix36864, show hn ((5, z) : MH) = 5 from rfl, show wr (B2 z) 6 0 7 = B3 z from rfl]
  refine v_Scribe_init_1 _ _ _ _ _ ?_
  refine gd_i rfl ?_
  refine gd_i rfl ?_
  rintro _ rfl
  try simp only [hB3, hn_wr, hn_wi, hn_wl, ix3, ix4, ix6, ix8, ix9, ix12, ix13, ix16, ix20, ix24, ix40, ix48, ix60, ix100, ix192, ix200, ix240, ix400, ix2200, ix3000, ix6000, ix8800, ix11520, ix23040, ix36864, show hn ((5, z) : MH) = 5 from rfl, show nw (B3 z) 20 100 = B4 z from rfl]
  refine ⟨kB4_6, ?_⟩
  rintro _ rfl
  try simp only [hB4, hn_wr, hn_wi, hn_wl, ix3, ix4, ix6, ix8, ix9, ix12, ix13, ix16, ix20, ix24, ix40, ix48, ix60, ix100, ix192, ix200, ix240, ix400, ix2200, ix3000, ix6000, ix8800, ix11520, ix23040, ix36864, show hn ((5, z) : MH) = 5 from rfl, show wr (B4 z) 6 1 8 = B5 z from rfl]
  refine v_Scribe_init_2 _ _ _ _ _ ?_
  refine ⟨kB5_6, ?_⟩
  rintro _ rfl
  try simp only [hB5, hn_wr, hn_wi, hn_wl, ix3, ix4, ix6, ix8, ix9, ix12, ix13, ix16, ix20, ix24, ix40, ix48, ix60, ix100, ix192, ix200, ix240, ix400, ix2200, ix3000, ix6000, ix8800, ix11520, ix23040, ix36864, show hn ((5, z) : MH) = 5 from rfl, show wi (B5 z) 6 2 (0 : Int32) = B6 z from rfl]
  rintro _ rfl
  try simp only [hB6, hn_wr, hn_wi, hn_wl, ix3, ix4, ix6, ix8, ix9, ix12, ix13, ix16, ix20, ix24, ix40, ix48, ix60, ix100, ix192, ix200, ix240, ix400, ix2200, ix3000, ix6000, ix8800, ix11520, ix23040, ix36864, show hn ((5, z) : MH) = 5 from rfl, show wi (B6 z) 6 3 (0 : Int32) = B7 z from rfl]
  refine v_Scribe_init_3 _ _ _ _ _ ?_
  refine ⟨kB7_6, ?_⟩
  rintro _ rfl
  try simp only [hB7, hn_wr, hn_wi, hn_wl, ix3, ix4, ix6, ix8, ix9, ix12, ix13, ix16, ix20, ix24, ix40, ix48, ix60, ix100, ix192, ix200, ix240, ix400, ix2200, ix3000, ix6000, ix8800, ix11520, ix23040, ix36864, show hn ((5, z) : MH) = 5 from rfl, show wi (B7 z) 6 4 (0 : Int32) = B8 z from rfl]
  rintro _ rfl
  try simp only [hB8, hn_wr, hn_wi, hn_wl, ix3, ix4, ix6, ix8, ix9, ix12, ix13, ix16, ix20, ix24, ix40, ix48, ix60, ix100, ix192, ix200, ix240, ix400, ix2200, ix3000, ix6000, ix8800, ix11520, ix23040, ix36864, show hn ((5, z) : MH) = 5 from rfl, show wi (B8 z) 6 5 (-1 : Int32) = B9 z from rfl]
  refine v_Scribe_init_4 _ _ _ _ _ ?_
  refine gd_i rfl ?_
  refine gd_i rfl ?_
  rintro _ rfl
  try simp only [hB9, hn_wr, hn_wi, hn_wl, ix3, ix4, ix6, ix8, ix9, ix12, ix13, ix16, ix20, ix24, ix40, ix48, ix60, ix100, ix192, ix200, ix240, ix400, ix2200, ix3000, ix6000, ix8800, ix11520, ix23040, ix36864, show hn ((5, z) : MH) = 5 from rfl, show nw (B9 z) 7 0 = B10 z from rfl]
  refine ⟨kB10_9, ?_⟩
  refine gd_i rfl ?_
  refine gd_i rfl ?_
  refine SpV.mono (sp_Motion_init (a := 9) (by decide) (by rw [hB10]; decide) kB10_9) ?_
  rintro _ rfl
  simp only [iM, hB10, Nat.reduceAdd, show nw (B10 z) 20 9 = B11 z from rfl, show wr (B11 z) 9 0 10 = B12 z from rfl, show nw (B12 z) 20 3 = B13 z from rfl, show wr (B13 z) 9 1 11 = B14 z from rfl]
  refine ⟨kB14_6, ?_⟩
  rintro _ rfl
  try simp only [hB14, hn_wr, hn_wi, hn_wl, ix3, ix4, ix6, ix8, ix9, ix12, ix13, ix16, ix20, ix24, ix40, ix48, ix60, ix100, ix192, ix200, ix240, ix400, ix2200, ix3000, ix6000, ix8800, ix11520, ix23040, ix36864, show hn ((5, z) : MH) = 5 from rfl, show wr (B14 z) 6 6 9 = B15 z from rfl]
  refine v_Scribe_init_5 _ _ _ _ _ ?_
  refine gd_i rfl ?_
  refine gd_i rfl ?_
  rintro _ rfl
  try simp only [hB15, hn_wr, hn_wi, hn_wl, ix3, ix4, ix6, ix8, ix9, ix12, ix13, ix16, ix20, ix24, ix40, ix48, ix60, ix100, ix192, ix200, ix240, ix400, ix2200, ix3000, ix6000, ix8800, ix11520, ix23040, ix36864, show hn ((5, z) : MH) = 5 from rfl, show nw (B15 z) 23 48 = B16 z from rfl]
  refine ⟨kB16_6, ?_⟩
  rintro _ rfl
  try simp only [hB16, hn_wr, hn_wi, hn_wl, ix3, ix4, ix6, ix8, ix9, ix12, ix13, ix16, ix20, ix24, ix40, ix48, ix60, ix100, ix192, ix200, ix240, ix400, ix2200, ix3000, ix6000, ix8800, ix11520, ix23040, ix36864, show hn ((5, z) : MH) = 5 from rfl, show wr (B16 z) 6 7 12 = B17 z from rfl]
  refine v_Scribe_init_6 _ _ _ _ _ ?_
  refine ⟨kB17_6, ?_⟩
  rintro _ rfl
  try simp only [hB17, hn_wr, hn_wi, hn_wl, ix3, ix4, ix6, ix8, ix9, ix12, ix13, ix16, ix20, ix24, ix40, ix48, ix60, ix100, ix192, ix200, ix240, ix400, ix2200, ix3000, ix6000, ix8800, ix11520, ix23040, ix36864, show hn ((5, z) : MH) = 5 from rfl, show wi (B17 z) 6 8 (0 : Int32) = B18 z from rfl]
  refine gd_i rfl ?_
  refine gd_i rfl ?_
  try simp only [hB17, hn_wr, hn_wi, hn_wl, ix3, ix4, ix6, ix8, ix9, ix12, ix13, ix16, ix20, ix24, ix40, ix48, ix60, ix100, ix192, ix200, ix240, ix400, ix2200, ix3000, ix6000, ix8800, ix11520, ix23040, ix36864, show hn ((5, z) : MH) = 5 from rfl, show wi (B17 z) 6 8 (0 : Int32) = B18 z from rfl]
  refine ⟨kB18_5, ?_⟩
  rintro _ rfl
  try simp only [hB18, hn_wr, hn_wi, hn_wl, ix3, ix4, ix6, ix8, ix9, ix12, ix13, ix16, ix20, ix24, ix40, ix48, ix60, ix100, ix192, ix200, ix240, ix400, ix2200, ix3000, ix6000, ix8800, ix11520, ix23040, ix36864, show hn ((5, z) : MH) = 5 from rfl, show wr (B18 z) 5 0 6 = B19 z from rfl]
  refine v_Ho_init_1 _ _ _ _ _ ?_
  refine gd_i rfl ?_
  refine gd_i rfl ?_
  rintro _ rfl
  try simp only [hB19, hn_wr, hn_wi, hn_wl, ix3, ix4, ix6, ix8, ix9, ix12, ix13, ix16, ix20, ix24, ix40, ix48, ix60, ix100, ix192, ix200, ix240, ix400, ix2200, ix3000, ix6000, ix8800, ix11520, ix23040, ix36864, show hn ((5, z) : MH) = 5 from rfl, show nw (B19 z) 20 40 = B20 z from rfl]
  refine ⟨kB20_5, ?_⟩
  rintro _ rfl
  try simp only [hB20, hn_wr, hn_wi, hn_wl, ix3, ix4, ix6, ix8, ix9, ix12, ix13, ix16, ix20, ix24, ix40, ix48, ix60, ix100, ix192, ix200, ix240, ix400, ix2200, ix3000, ix6000, ix8800, ix11520, ix23040, ix36864, show hn ((5, z) : MH) = 5 from rfl, show wr (B20 z) 5 1 13 = B21 z from rfl]
  refine v_Ho_init_2 _ _ _ _ _ ?_
  refine gd_i rfl ?_
  refine gd_i rfl ?_
  rintro _ rfl
  try simp only [hB21, hn_wr, hn_wi, hn_wl, ix3, ix4, ix6, ix8, ix9, ix12, ix13, ix16, ix20, ix24, ix40, ix48, ix60, ix100, ix192, ix200, ix240, ix400, ix2200, ix3000, ix6000, ix8800, ix11520, ix23040, ix36864, show hn ((5, z) : MH) = 5 from rfl, show nw (B21 z) 22 40 = B22 z from rfl]
  refine ⟨kB22_5, ?_⟩
  rintro _ rfl
  try simp only [hB22, hn_wr, hn_wi, hn_wl, ix3, ix4, ix6, ix8, ix9, ix12, ix13, ix16, ix20, ix24, ix40, ix48, ix60, ix100, ix192, ix200, ix240, ix400, ix2200, ix3000, ix6000, ix8800, ix11520, ix23040, ix36864, show hn ((5, z) : MH) = 5 from rfl, show wr (B22 z) 5 2 14 = B23 z from rfl]
  refine v_Ho_init_3 _ _ _ _ _ ?_
  refine ⟨kB23_5, ?_⟩
  rintro _ rfl
  try simp only [hB23, hn_wr, hn_wi, hn_wl, ix3, ix4, ix6, ix8, ix9, ix12, ix13, ix16, ix20, ix24, ix40, ix48, ix60, ix100, ix192, ix200, ix240, ix400, ix2200, ix3000, ix6000, ix8800, ix11520, ix23040, ix36864, show hn ((5, z) : MH) = 5 from rfl, show wi (B23 z) 5 3 (0 : Int32) = B24 z from rfl]
  refine gd_i rfl ?_
  refine gd_i rfl ?_
  rintro _ rfl
  try simp only [hB24, hn_wr, hn_wi, hn_wl, ix3, ix4, ix6, ix8, ix9, ix12, ix13, ix16, ix20, ix24, ix40, ix48, ix60, ix100, ix192, ix200, ix240, ix400, ix2200, ix3000, ix6000, ix8800, ix11520, ix23040, ix36864, show hn ((5, z) : MH) = 5 from rfl, show nw (B24 z) 2 0 = B25 z from rfl]
  refine ⟨kB25_15, ?_⟩
  refine gd_i rfl ?_
  refine gd_i rfl ?_
  refine v_Closure_init _ _ _ ?_
  refine ⟨by decide, ?_⟩
  rintro _ rfl
  try simp only [hB25, hn_wr, hn_wi, hn_wl, ix3, ix4, ix6, ix8, ix9, ix12, ix13, ix16, ix20, ix24, ix40, ix48, ix60, ix100, ix192, ix200, ix240, ix400, ix2200, ix3000, ix6000, ix8800, ix11520, ix23040, ix36864, show hn ((5, z) : MH) = 5 from rfl, show nw (B25 z) 9 0 = B26 z from rfl]
  refine ⟨kB26_16, ?_⟩
  refine SpV.mono (sp_Row_init (a := 16) (n := 192) (by decide) (by rw [hB26]; decide) kB26_16 (by decide)) ?_
  rintro _ rfl
  simp only [iR, hB26, Nat.reduceAdd, show wi (B26 z) 16 1 0 = B27 z from rfl, show nw (B27 z) 20 192 = B28 z from rfl, show wr (B28 z) 16 0 17 = B29 z from rfl]
  refine ⟨kB29_15, ?_⟩
  rintro _ rfl
  try simp only [hB29, hn_wr, hn_wi, hn_wl, ix3, ix4, ix6, ix8, ix9, ix12, ix13, ix16, ix20, ix24, ix40, ix48, ix60, ix100, ix192, ix200, ix240, ix400, ix2200, ix3000, ix6000, ix8800, ix11520, ix23040, ix36864, show hn ((5, z) : MH) = 5 from rfl, show wr (B29 z) 15 0 16 = B30 z from rfl]
  refine v_Closure_init_1 _ _ _ _ _ ?_
  refine gd_i rfl ?_
  refine gd_i rfl ?_
  rintro _ rfl
  try simp only [hB30, hn_wr, hn_wi, hn_wl, ix3, ix4, ix6, ix8, ix9, ix12, ix13, ix16, ix20, ix24, ix40, ix48, ix60, ix100, ix192, ix200, ix240, ix400, ix2200, ix3000, ix6000, ix8800, ix11520, ix23040, ix36864, show hn ((5, z) : MH) = 5 from rfl, show nw (B30 z) 20 192 = B31 z from rfl]
  refine ⟨kB31_15, ?_⟩
  rintro _ rfl
  try simp only [hB31, hn_wr, hn_wi, hn_wl, ix3, ix4, ix6, ix8, ix9, ix12, ix13, ix16, ix20, ix24, ix40, ix48, ix60, ix100, ix192, ix200, ix240, ix400, ix2200, ix3000, ix6000, ix8800, ix11520, ix23040, ix36864, show hn ((5, z) : MH) = 5 from rfl, show wr (B31 z) 15 1 18 = B32 z from rfl]
  refine v_Closure_init_2 _ _ _ _ _ ?_
  refine gd_i rfl ?_
  refine gd_i rfl ?_
  rintro _ rfl
  try simp only [hB32, hn_wr, hn_wi, hn_wl, ix3, ix4, ix6, ix8, ix9, ix12, ix13, ix16, ix20, ix24, ix40, ix48, ix60, ix100, ix192, ix200, ix240, ix400, ix2200, ix3000, ix6000, ix8800, ix11520, ix23040, ix36864, show hn ((5, z) : MH) = 5 from rfl, show nw (B32 z) 20 8 = B33 z from rfl]
  refine ⟨kB33_15, ?_⟩
  rintro _ rfl
  try simp only [hB33, hn_wr, hn_wi, hn_wl, ix3, ix4, ix6, ix8, ix9, ix12, ix13, ix16, ix20, ix24, ix40, ix48, ix60, ix100, ix192, ix200, ix240, ix400, ix2200, ix3000, ix6000, ix8800, ix11520, ix23040, ix36864, show hn ((5, z) : MH) = 5 from rfl, show wr (B33 z) 15 2 19 = B34 z from rfl]
  refine v_Closure_init_3 _ _ _ _ _ ?_
  refine ⟨kB34_15, ?_⟩
  rintro _ rfl
  try simp only [hB34, hn_wr, hn_wi, hn_wl, ix3, ix4, ix6, ix8, ix9, ix12, ix13, ix16, ix20, ix24, ix40, ix48, ix60, ix100, ix192, ix200, ix240, ix400, ix2200, ix3000, ix6000, ix8800, ix11520, ix23040, ix36864, show hn ((5, z) : MH) = 5 from rfl, show wi (B34 z) 15 3 (0 : Int32) = B35 z from rfl]
  refine gd_i rfl ?_
  refine gd_i rfl ?_
  rintro _ rfl
  try simp only [hB35, hn_wr, hn_wi, hn_wl, ix3, ix4, ix6, ix8, ix9, ix12, ix13, ix16, ix20, ix24, ix40, ix48, ix60, ix100, ix192, ix200, ix240, ix400, ix2200, ix3000, ix6000, ix8800, ix11520, ix23040, ix36864, show hn ((5, z) : MH) = 5 from rfl, show nw (B35 z) 7 0 = B36 z from rfl]
  refine ⟨kB36_20, ?_⟩
  refine gd_i rfl ?_
  refine gd_i rfl ?_
  refine SpV.mono (sp_Motion_init (a := 20) (by decide) (by rw [hB36]; decide) kB36_20) ?_
  rintro _ rfl
  simp only [iM, hB36, Nat.reduceAdd, show nw (B36 z) 20 9 = B37 z from rfl, show wr (B37 z) 20 0 21 = B38 z from rfl, show nw (B38 z) 20 3 = B39 z from rfl, show wr (B39 z) 20 1 22 = B40 z from rfl]
  refine ⟨kB40_15, ?_⟩
  rintro _ rfl
  try simp only [hB40, hn_wr, hn_wi, hn_wl, ix3, ix4, ix6, ix8, ix9, ix12, ix13, ix16, ix20, ix24, ix40, ix48, ix60, ix100, ix192, ix200, ix240, ix400, ix2200, ix3000, ix6000, ix8800, ix11520, ix23040, ix36864, show hn ((5, z) : MH) = 5 from rfl, show wr (B40 z) 15 4 20 = B41 z from rfl]
  refine v_Closure_init_4 _ _ _ _ _ ?_
  refine gd_i rfl ?_
  refine gd_i rfl ?_
  rintro _ rfl
  try simp only [hB41, hn_wr, hn_wi, hn_wl, ix3, ix4, ix6, ix8, ix9, ix12, ix13, ix16, ix20, ix24, ix40, ix48, ix60, ix100, ix192, ix200, ix240, ix400, ix2200, ix3000, ix6000, ix8800, ix11520, ix23040, ix36864, show hn ((5, z) : MH) = 5 from rfl, show nw (B41 z) 7 0 = B42 z from rfl]
  refine ⟨kB42_23, ?_⟩
  refine gd_i rfl ?_
  refine gd_i rfl ?_
  refine SpV.mono (sp_Motion_init (a := 23) (by decide) (by rw [hB42]; decide) kB42_23) ?_
  rintro _ rfl
  simp only [iM, hB42, Nat.reduceAdd, show nw (B42 z) 20 9 = B43 z from rfl, show wr (B43 z) 23 0 24 = B44 z from rfl, show nw (B44 z) 20 3 = B45 z from rfl, show wr (B45 z) 23 1 25 = B46 z from rfl]
  refine ⟨kB46_15, ?_⟩
  rintro _ rfl
  try simp only [hB46, hn_wr, hn_wi, hn_wl, ix3, ix4, ix6, ix8, ix9, ix12, ix13, ix16, ix20, ix24, ix40, ix48, ix60, ix100, ix192, ix200, ix240, ix400, ix2200, ix3000, ix6000, ix8800, ix11520, ix23040, ix36864, show hn ((5, z) : MH) = 5 from rfl, show wr (B46 z) 15 5 23 = B47 z from rfl]
  refine v_Closure_init_5 _ _ _ _ _ ?_
  refine gd_i rfl ?_
  refine gd_i rfl ?_
  rintro _ rfl
  try simp only [hB47, hn_wr, hn_wi, hn_wl, ix3, ix4, ix6, ix8, ix9, ix12, ix13, ix16, ix20, ix24, ix40, ix48, ix60, ix100, ix192, ix200, ix240, ix400, ix2200, ix3000, ix6000, ix8800, ix11520, ix23040, ix36864, show hn ((5, z) : MH) = 5 from rfl, show nw (B47 z) 7 0 = B48 z from rfl]
  refine ⟨kB48_26, ?_⟩
  refine gd_i rfl ?_
  refine gd_i rfl ?_
  refine SpV.mono (sp_Motion_init (a := 26) (by decide) (by rw [hB48]; decide) kB48_26) ?_
  rintro _ rfl
  simp only [iM, hB48, Nat.reduceAdd, show nw (B48 z) 20 9 = B49 z from rfl, show wr (B49 z) 26 0 27 = B50 z from rfl, show nw (B50 z) 20 3 = B51 z from rfl, show wr (B51 z) 26 1 28 = B52 z from rfl]
  refine ⟨kB52_15, ?_⟩
  rintro _ rfl
  try simp only [hB52, hn_wr, hn_wi, hn_wl, ix3, ix4, ix6, ix8, ix9, ix12, ix13, ix16, ix20, ix24, ix40, ix48, ix60, ix100, ix192, ix200, ix240, ix400, ix2200, ix3000, ix6000, ix8800, ix11520, ix23040, ix36864, show hn ((5, z) : MH) = 5 from rfl, show wr (B52 z) 15 6 26 = B53 z from rfl]
  refine v_Closure_init_6 _ _ _ _ ?_
  refine gd_i rfl ?_
  refine gd_i rfl ?_
  try simp only [hB52, hn_wr, hn_wi, hn_wl, ix3, ix4, ix6, ix8, ix9, ix12, ix13, ix16, ix20, ix24, ix40, ix48, ix60, ix100, ix192, ix200, ix240, ix400, ix2200, ix3000, ix6000, ix8800, ix11520, ix23040, ix36864, show hn ((5, z) : MH) = 5 from rfl, show wr (B52 z) 15 6 26 = B53 z from rfl]
  refine ⟨kB53_5, ?_⟩
  rintro _ rfl
  try simp only [hB53, hn_wr, hn_wi, hn_wl, ix3, ix4, ix6, ix8, ix9, ix12, ix13, ix16, ix20, ix24, ix40, ix48, ix60, ix100, ix192, ix200, ix240, ix400, ix2200, ix3000, ix6000, ix8800, ix11520, ix23040, ix36864, show hn ((5, z) : MH) = 5 from rfl, show wr (B53 z) 5 4 15 = B54 z from rfl]
  refine v_Ho_init_4 _ _ _ _ _ ?_
  refine gd_i rfl ?_
  refine gd_i rfl ?_
  rintro _ rfl
  try simp only [hB54, hn_wr, hn_wi, hn_wl, ix3, ix4, ix6, ix8, ix9, ix12, ix13, ix16, ix20, ix24, ix40, ix48, ix60, ix100, ix192, ix200, ix240, ix400, ix2200, ix3000, ix6000, ix8800, ix11520, ix23040, ix36864, show hn ((5, z) : MH) = 5 from rfl, show nw (B54 z) 24 60 = B55 z from rfl]
  refine ⟨kB55_5, ?_⟩
  rintro _ rfl
  try simp only [hB55, hn_wr, hn_wi, hn_wl, ix3, ix4, ix6, ix8, ix9, ix12, ix13, ix16, ix20, ix24, ix40, ix48, ix60, ix100, ix192, ix200, ix240, ix400, ix2200, ix3000, ix6000, ix8800, ix11520, ix23040, ix36864, show hn ((5, z) : MH) = 5 from rfl, show wr (B55 z) 5 5 29 = B56 z from rfl]
  refine v_Ho_init_5 _ _ _ _ _ ?_
  refine ⟨kB56_5, ?_⟩
  rintro _ rfl
  try simp only [hB56, hn_wr, hn_wi, hn_wl, ix3, ix4, ix6, ix8, ix9, ix12, ix13, ix16, ix20, ix24, ix40, ix48, ix60, ix100, ix192, ix200, ix240, ix400, ix2200, ix3000, ix6000, ix8800, ix11520, ix23040, ix36864, show hn ((5, z) : MH) = 5 from rfl, show wi (B56 z) 5 6 (0 : Int32) = B57 z from rfl]
  refine gd_i rfl ?_
  refine gd_i rfl ?_
  rintro _ rfl
  try simp only [hB57, hn_wr, hn_wi, hn_wl, ix3, ix4, ix6, ix8, ix9, ix12, ix13, ix16, ix20, ix24, ix40, ix48, ix60, ix100, ix192, ix200, ix240, ix400, ix2200, ix3000, ix6000, ix8800, ix11520, ix23040, ix36864, show hn ((5, z) : MH) = 5 from rfl, show nw (B57 z) 7 0 = B58 z from rfl]
  refine ⟨kB58_30, ?_⟩
  refine gd_i rfl ?_
  refine gd_i rfl ?_
  refine SpV.mono (sp_Motion_init (a := 30) (by decide) (by rw [hB58]; decide) kB58_30) ?_
  rintro _ rfl
  simp only [iM, hB58, Nat.reduceAdd, show nw (B58 z) 20 9 = B59 z from rfl, show wr (B59 z) 30 0 31 = B60 z from rfl, show nw (B60 z) 20 3 = B61 z from rfl, show wr (B61 z) 30 1 32 = B62 z from rfl]
  refine ⟨kB62_5, ?_⟩
  rintro _ rfl
  try simp only [hB62, hn_wr, hn_wi, hn_wl, ix3, ix4, ix6, ix8, ix9, ix12, ix13, ix16, ix20, ix24, ix40, ix48, ix60, ix100, ix192, ix200, ix240, ix400, ix2200, ix3000, ix6000, ix8800, ix11520, ix23040, ix36864, show hn ((5, z) : MH) = 5 from rfl, show wr (B62 z) 5 7 30 = B63 z from rfl]
  refine v_Ho_init_6 _ _ _ _ _ ?_
  refine gd_i rfl ?_
  refine gd_i rfl ?_
  rintro _ rfl
  try simp only [hB63, hn_wr, hn_wi, hn_wl, ix3, ix4, ix6, ix8, ix9, ix12, ix13, ix16, ix20, ix24, ix40, ix48, ix60, ix100, ix192, ix200, ix240, ix400, ix2200, ix3000, ix6000, ix8800, ix11520, ix23040, ix36864, show hn ((5, z) : MH) = 5 from rfl, show nw (B63 z) 7 0 = B64 z from rfl]
  refine ⟨kB64_33, ?_⟩
  refine gd_i rfl ?_
  refine gd_i rfl ?_
  refine SpV.mono (sp_Motion_init (a := 33) (by decide) (by rw [hB64]; decide) kB64_33) ?_
  rintro _ rfl
  simp only [iM, hB64, Nat.reduceAdd, show nw (B64 z) 20 9 = B65 z from rfl, show wr (B65 z) 33 0 34 = B66 z from rfl, show nw (B66 z) 20 3 = B67 z from rfl, show wr (B67 z) 33 1 35 = B68 z from rfl]
  refine ⟨kB68_5, ?_⟩
  rintro _ rfl
  try simp only [hB68, hn_wr, hn_wi, hn_wl, ix3, ix4, ix6, ix8, ix9, ix12, ix13, ix16, ix20, ix24, ix40, ix48, ix60, ix100, ix192, ix200, ix240, ix400, ix2200, ix3000, ix6000, ix8800, ix11520, ix23040, ix36864, show hn ((5, z) : MH) = 5 from rfl, show wr (B68 z) 5 8 33 = B69 z from rfl]
  refine v_Ho_init_7 _ _ _ _ _ ?_
  refine gd_i rfl ?_
  refine gd_i rfl ?_
  rintro _ rfl
  try simp only [hB69, hn_wr, hn_wi, hn_wl, ix3, ix4, ix6, ix8, ix9, ix12, ix13, ix16, ix20, ix24, ix40, ix48, ix60, ix100, ix192, ix200, ix240, ix400, ix2200, ix3000, ix6000, ix8800, ix11520, ix23040, ix36864, show hn ((5, z) : MH) = 5 from rfl, show nw (B69 z) 7 0 = B70 z from rfl]
  refine ⟨kB70_36, ?_⟩
  refine gd_i rfl ?_
  refine gd_i rfl ?_
  refine SpV.mono (sp_Motion_init (a := 36) (by decide) (by rw [hB70]; decide) kB70_36) ?_
  rintro _ rfl
  simp only [iM, hB70, Nat.reduceAdd, show nw (B70 z) 20 9 = B71 z from rfl, show wr (B71 z) 36 0 37 = B72 z from rfl, show nw (B72 z) 20 3 = B73 z from rfl, show wr (B73 z) 36 1 38 = B74 z from rfl]
  refine ⟨kB74_5, ?_⟩
  rintro _ rfl
  try simp only [hB74, hn_wr, hn_wi, hn_wl, ix3, ix4, ix6, ix8, ix9, ix12, ix13, ix16, ix20, ix24, ix40, ix48, ix60, ix100, ix192, ix200, ix240, ix400, ix2200, ix3000, ix6000, ix8800, ix11520, ix23040, ix36864, show hn ((5, z) : MH) = 5 from rfl, show wr (B74 z) 5 9 36 = B75 z from rfl]
  refine v_Ho_init_8 _ _ _ _ _ ?_
  refine gd_i rfl ?_
  refine gd_i rfl ?_
  rintro _ rfl
  try simp only [hB75, hn_wr, hn_wi, hn_wl, ix3, ix4, ix6, ix8, ix9, ix12, ix13, ix16, ix20, ix24, ix40, ix48, ix60, ix100, ix192, ix200, ix240, ix400, ix2200, ix3000, ix6000, ix8800, ix11520, ix23040, ix36864, show hn ((5, z) : MH) = 5 from rfl, show nw (B75 z) 9 0 = B76 z from rfl]
  refine ⟨kB76_39, ?_⟩
  refine gd_i rfl ?_
  refine gd_i rfl ?_
  refine SpV.mono (sp_Row_init (a := 39) (n := 384) (by decide) (by rw [hB76]; decide) kB76_39 (by decide)) ?_
  rintro _ rfl
  simp only [iR, hB76, Nat.reduceAdd, show wi (B76 z) 39 1 0 = B77 z from rfl, show nw (B77 z) 20 384 = B78 z from rfl, show wr (B78 z) 39 0 40 = B79 z from rfl]
  refine ⟨kB79_5, ?_⟩
  rintro _ rfl
  try simp only [hB79, hn_wr, hn_wi, hn_wl, ix3, ix4, ix6, ix8, ix9, ix12, ix13, ix16, ix20, ix24, ix40, ix48, ix60, ix100, ix192, ix200, ix240, ix400, ix2200, ix3000, ix6000, ix8800, ix11520, ix23040, ix36864, show hn ((5, z) : MH) = 5 from rfl, show wr (B79 z) 5 10 39 = B80 z from rfl]
  refine v_Ho_init_9 _ _ _ _ _ ?_
  refine gd_i rfl ?_
  refine gd_i rfl ?_
  rintro _ rfl
  try simp only [hB80, hn_wr, hn_wi, hn_wl, ix3, ix4, ix6, ix8, ix9, ix12, ix13, ix16, ix20, ix24, ix40, ix48, ix60, ix100, ix192, ix200, ix240, ix400, ix2200, ix3000, ix6000, ix8800, ix11520, ix23040, ix36864, show hn ((5, z) : MH) = 5 from rfl, show nw (B80 z) 20 192 = B81 z from rfl]
  refine ⟨kB81_5, ?_⟩
  rintro _ rfl
  try simp only [hB81, hn_wr, hn_wi, hn_wl, ix3, ix4, ix6, ix8, ix9, ix12, ix13, ix16, ix20, ix24, ix40, ix48, ix60, ix100, ix192, ix200, ix240, ix400, ix2200, ix3000, ix6000, ix8800, ix11520, ix23040, ix36864, show hn ((5, z) : MH) = 5 from rfl, show wr (B81 z) 5 11 41 = B82 z from rfl]
  refine v_Ho_init_10 _ _ _ _ _ ?_
  refine gd_i rfl ?_
  refine gd_i rfl ?_
  rintro _ rfl
  try simp only [hB82, hn_wr, hn_wi, hn_wl, ix3, ix4, ix6, ix8, ix9, ix12, ix13, ix16, ix20, ix24, ix40, ix48, ix60, ix100, ix192, ix200, ix240, ix400, ix2200, ix3000, ix6000, ix8800, ix11520, ix23040, ix36864, show hn ((5, z) : MH) = 5 from rfl, show nw (B82 z) 20 192 = B83 z from rfl]
  refine ⟨kB83_5, ?_⟩
  rintro _ rfl
  try simp only [hB83, hn_wr, hn_wi, hn_wl, ix3, ix4, ix6, ix8, ix9, ix12, ix13, ix16, ix20, ix24, ix40, ix48, ix60, ix100, ix192, ix200, ix240, ix400, ix2200, ix3000, ix6000, ix8800, ix11520, ix23040, ix36864, show hn ((5, z) : MH) = 5 from rfl, show wr (B83 z) 5 12 42 = B84 z from rfl]
  refine v_Ho_init_11 _ _ _ _ _ ?_
  refine gd_i rfl ?_
  refine gd_i rfl ?_
  rintro _ rfl
  try simp only [hB84, hn_wr, hn_wi, hn_wl, ix3, ix4, ix6, ix8, ix9, ix12, ix13, ix16, ix20, ix24, ix40, ix48, ix60, ix100, ix192, ix200, ix240, ix400, ix2200, ix3000, ix6000, ix8800, ix11520, ix23040, ix36864, show hn ((5, z) : MH) = 5 from rfl, show nw (B84 z) 25 40 = B85 z from rfl]
  refine ⟨kB85_5, ?_⟩
  rintro _ rfl
  try simp only [hB85, hn_wr, hn_wi, hn_wl, ix3, ix4, ix6, ix8, ix9, ix12, ix13, ix16, ix20, ix24, ix40, ix48, ix60, ix100, ix192, ix200, ix240, ix400, ix2200, ix3000, ix6000, ix8800, ix11520, ix23040, ix36864, show hn ((5, z) : MH) = 5 from rfl, show wr (B85 z) 5 13 43 = B86 z from rfl]
  refine v_Ho_init_12 _ _ _ _ _ ?_
  refine ⟨kB86_5, ?_⟩
  rintro _ rfl
  try simp only [hB86, hn_wr, hn_wi, hn_wl, ix3, ix4, ix6, ix8, ix9, ix12, ix13, ix16, ix20, ix24, ix40, ix48, ix60, ix100, ix192, ix200, ix240, ix400, ix2200, ix3000, ix6000, ix8800, ix11520, ix23040, ix36864, show hn ((5, z) : MH) = 5 from rfl, show wi (B86 z) 5 14 (0 : Int32) = B87 z from rfl]
  refine gd_i rfl ?_
  refine gd_i rfl ?_
  rintro _ rfl
  try simp only [hB87, hn_wr, hn_wi, hn_wl, ix3, ix4, ix6, ix8, ix9, ix12, ix13, ix16, ix20, ix24, ix40, ix48, ix60, ix100, ix192, ix200, ix240, ix400, ix2200, ix3000, ix6000, ix8800, ix11520, ix23040, ix36864, show hn ((5, z) : MH) = 5 from rfl, show nw (B87 z) 26 20 = B88 z from rfl]
  refine ⟨kB88_5, ?_⟩
  rintro _ rfl
  try simp only [hB88, hn_wr, hn_wi, hn_wl, ix3, ix4, ix6, ix8, ix9, ix12, ix13, ix16, ix20, ix24, ix40, ix48, ix60, ix100, ix192, ix200, ix240, ix400, ix2200, ix3000, ix6000, ix8800, ix11520, ix23040, ix36864, show hn ((5, z) : MH) = 5 from rfl, show wr (B88 z) 5 15 44 = B89 z from rfl]
  refine v_Ho_init_13 _ _ _ _ _ ?_
  refine ⟨kB89_5, ?_⟩
  rintro _ rfl
  try simp only [hB89, hn_wr, hn_wi, hn_wl, ix3, ix4, ix6, ix8, ix9, ix12, ix13, ix16, ix20, ix24, ix40, ix48, ix60, ix100, ix192, ix200, ix240, ix400, ix2200, ix3000, ix6000, ix8800, ix11520, ix23040, ix36864, show hn ((5, z) : MH) = 5 from rfl, show wi (B89 z) 5 16 (0 : Int32) = B90 z from rfl]
  refine gd_i rfl ?_
  refine gd_i rfl ?_
  rintro _ rfl
  try simp only [hB90, hn_wr, hn_wi, hn_wl, ix3, ix4, ix6, ix8, ix9, ix12, ix13, ix16, ix20, ix24, ix40, ix48, ix60, ix100, ix192, ix200, ix240, ix400, ix2200, ix3000, ix6000, ix8800, ix11520, ix23040, ix36864, show hn ((5, z) : MH) = 5 from rfl, show nw (B90 z) 11 0 = B91 z from rfl]
  refine ⟨kB91_45, ?_⟩
  refine gd_i rfl ?_
  refine gd_i rfl ?_
  refine v_Wave_init _ _ _ ?_
  refine ⟨by decide, ?_⟩
  rintro _ rfl
  try simp only [hB91, hn_wr, hn_wi, hn_wl, ix3, ix4, ix6, ix8, ix9, ix12, ix13, ix16, ix20, ix24, ix40, ix48, ix60, ix100, ix192, ix200, ix240, ix400, ix2200, ix3000, ix6000, ix8800, ix11520, ix23040, ix36864, show hn ((5, z) : MH) = 5 from rfl, show nw (B91 z) 21 4 = B92 z from rfl]
  refine ⟨kB92_45, ?_⟩
  rintro _ rfl
  try simp only [hB92, hn_wr, hn_wi, hn_wl, ix3, ix4, ix6, ix8, ix9, ix12, ix13, ix16, ix20, ix24, ix40, ix48, ix60, ix100, ix192, ix200, ix240, ix400, ix2200, ix3000, ix6000, ix8800, ix11520, ix23040, ix36864, show hn ((5, z) : MH) = 5 from rfl, show wr (B92 z) 45 0 46 = B93 z from rfl]
  refine v_Wave_init_1 _ _ _ _ _ ?_
  refine gd_i rfl ?_
  refine gd_i rfl ?_
  rintro _ rfl
  try simp only [hB93, hn_wr, hn_wi, hn_wl, ix3, ix4, ix6, ix8, ix9, ix12, ix13, ix16, ix20, ix24, ix40, ix48, ix60, ix100, ix192, ix200, ix240, ix400, ix2200, ix3000, ix6000, ix8800, ix11520, ix23040, ix36864, show hn ((5, z) : MH) = 5 from rfl, show nw (B93 z) 21 4 = B94 z from rfl]
  refine ⟨kB94_45, ?_⟩
  rintro _ rfl
  try simp only [hB94, hn_wr, hn_wi, hn_wl, ix3, ix4, ix6, ix8, ix9, ix12, ix13, ix16, ix20, ix24, ix40, ix48, ix60, ix100, ix192, ix200, ix240, ix400, ix2200, ix3000, ix6000, ix8800, ix11520, ix23040, ix36864, show hn ((5, z) : MH) = 5 from rfl, show wr (B94 z) 45 1 47 = B95 z from rfl]
  refine v_Wave_init_2 _ _ _ _ _ ?_
  refine gd_i rfl ?_
  refine gd_i rfl ?_
  rintro _ rfl
  try simp only [hB95, hn_wr, hn_wi, hn_wl, ix3, ix4, ix6, ix8, ix9, ix12, ix13, ix16, ix20, ix24, ix40, ix48, ix60, ix100, ix192, ix200, ix240, ix400, ix2200, ix3000, ix6000, ix8800, ix11520, ix23040, ix36864, show hn ((5, z) : MH) = 5 from rfl, show nw (B95 z) 21 4 = B96 z from rfl]
  refine ⟨kB96_45, ?_⟩
  rintro _ rfl
  try simp only [hB96, hn_wr, hn_wi, hn_wl, ix3, ix4, ix6, ix8, ix9, ix12, ix13, ix16, ix20, ix24, ix40, ix48, ix60, ix100, ix192, ix200, ix240, ix400, ix2200, ix3000, ix6000, ix8800, ix11520, ix23040, ix36864, show hn ((5, z) : MH) = 5 from rfl, show wr (B96 z) 45 2 48 = B97 z from rfl]
  refine v_Wave_init_3 _ _ _ _ _ ?_
  refine gd_i rfl ?_
  refine gd_i rfl ?_
  rintro _ rfl
  try simp only [hB97, hn_wr, hn_wi, hn_wl, ix3, ix4, ix6, ix8, ix9, ix12, ix13, ix16, ix20, ix24, ix40, ix48, ix60, ix100, ix192, ix200, ix240, ix400, ix2200, ix3000, ix6000, ix8800, ix11520, ix23040, ix36864, show hn ((5, z) : MH) = 5 from rfl, show nw (B97 z) 20 24 = B98 z from rfl]
  refine ⟨kB98_45, ?_⟩
  rintro _ rfl
  try simp only [hB98, hn_wr, hn_wi, hn_wl, ix3, ix4, ix6, ix8, ix9, ix12, ix13, ix16, ix20, ix24, ix40, ix48, ix60, ix100, ix192, ix200, ix240, ix400, ix2200, ix3000, ix6000, ix8800, ix11520, ix23040, ix36864, show hn ((5, z) : MH) = 5 from rfl, show wr (B98 z) 45 3 49 = B99 z from rfl]
  refine v_Wave_init_4 _ _ _ _ ?_
  refine gd_i rfl ?_
  refine gd_i rfl ?_
  try simp only [hB98, hn_wr, hn_wi, hn_wl, ix3, ix4, ix6, ix8, ix9, ix12, ix13, ix16, ix20, ix24, ix40, ix48, ix60, ix100, ix192, ix200, ix240, ix400, ix2200, ix3000, ix6000, ix8800, ix11520, ix23040, ix36864, show hn ((5, z) : MH) = 5 from rfl, show wr (B98 z) 45 3 49 = B99 z from rfl]
  refine ⟨kB99_5, ?_⟩
  rintro _ rfl
  try simp only [hB99, hn_wr, hn_wi, hn_wl, ix3, ix4, ix6, ix8, ix9, ix12, ix13, ix16, ix20, ix24, ix40, ix48, ix60, ix100, ix192, ix200, ix240, ix400, ix2200, ix3000, ix6000, ix8800, ix11520, ix23040, ix36864, show hn ((5, z) : MH) = 5 from rfl, show wr (B99 z) 5 17 45 = B100 z from rfl]
  refine v_Ho_init_14 _ _ _ _ _ ?_
  refine gd_i rfl ?_
  refine gd_i rfl ?_
  rintro _ rfl
  try simp only [hB100, hn_wr, hn_wi, hn_wl, ix3, ix4, ix6, ix8, ix9, ix12, ix13, ix16, ix20, ix24, ix40, ix48, ix60, ix100, ix192, ix200, ix240, ix400, ix2200, ix3000, ix6000, ix8800, ix11520, ix23040, ix36864, show hn ((5, z) : MH) = 5 from rfl, show nw (B100 z) 8 0 = B101 z from rfl]
  refine ⟨kB101_50, ?_⟩
  refine gd_i rfl ?_
  refine gd_i rfl ?_
  refine v_Phases_init _ _ _ ?_
  refine ⟨by decide, ?_⟩
  rintro _ rfl
  try simp only [hB101, hn_wr, hn_wi, hn_wl, ix3, ix4, ix6, ix8, ix9, ix12, ix13, ix16, ix20, ix24, ix40, ix48, ix60, ix100, ix192, ix200, ix240, ix400, ix2200, ix3000, ix6000, ix8800, ix11520, ix23040, ix36864, show hn ((5, z) : MH) = 5 from rfl, show nw (B101 z) 20 40 = B102 z from rfl]
  refine ⟨kB102_50, ?_⟩
  rintro _ rfl
  try simp only [hB102, hn_wr, hn_wi, hn_wl, ix3, ix4, ix6, ix8, ix9, ix12, ix13, ix16, ix20, ix24, ix40, ix48, ix60, ix100, ix192, ix200, ix240, ix400, ix2200, ix3000, ix6000, ix8800, ix11520, ix23040, ix36864, show hn ((5, z) : MH) = 5 from rfl, show wr (B102 z) 50 0 51 = B103 z from rfl]
  refine v_Phases_init_1 _ _ _ _ _ ?_
  refine gd_i rfl ?_
  refine gd_i rfl ?_
  rintro _ rfl
  try simp only [hB103, hn_wr, hn_wi, hn_wl, ix3, ix4, ix6, ix8, ix9, ix12, ix13, ix16, ix20, ix24, ix40, ix48, ix60, ix100, ix192, ix200, ix240, ix400, ix2200, ix3000, ix6000, ix8800, ix11520, ix23040, ix36864, show hn ((5, z) : MH) = 5 from rfl, show nw (B103 z) 20 40 = B104 z from rfl]
  refine ⟨kB104_50, ?_⟩
  rintro _ rfl
  try simp only [hB104, hn_wr, hn_wi, hn_wl, ix3, ix4, ix6, ix8, ix9, ix12, ix13, ix16, ix20, ix24, ix40, ix48, ix60, ix100, ix192, ix200, ix240, ix400, ix2200, ix3000, ix6000, ix8800, ix11520, ix23040, ix36864, show hn ((5, z) : MH) = 5 from rfl, show wr (B104 z) 50 1 52 = B105 z from rfl]
  refine v_Phases_init_2 _ _ _ _ _ ?_
  refine gd_i rfl ?_
  refine gd_i rfl ?_
  rintro _ rfl
  try simp only [hB105, hn_wr, hn_wi, hn_wl, ix3, ix4, ix6, ix8, ix9, ix12, ix13, ix16, ix20, ix24, ix40, ix48, ix60, ix100, ix192, ix200, ix240, ix400, ix2200, ix3000, ix6000, ix8800, ix11520, ix23040, ix36864, show hn ((5, z) : MH) = 5 from rfl, show nw (B105 z) 21 40 = B106 z from rfl]
  refine ⟨kB106_50, ?_⟩
  rintro _ rfl
  try simp only [hB106, hn_wr, hn_wi, hn_wl, ix3, ix4, ix6, ix8, ix9, ix12, ix13, ix16, ix20, ix24, ix40, ix48, ix60, ix100, ix192, ix200, ix240, ix400, ix2200, ix3000, ix6000, ix8800, ix11520, ix23040, ix36864, show hn ((5, z) : MH) = 5 from rfl, show wr (B106 z) 50 2 53 = B107 z from rfl]
  refine v_Phases_init_3 _ _ _ _ _ ?_
  refine ⟨kB107_50, ?_⟩
  rintro _ rfl
  try simp only [hB107, hn_wr, hn_wi, hn_wl, ix3, ix4, ix6, ix8, ix9, ix12, ix13, ix16, ix20, ix24, ix40, ix48, ix60, ix100, ix192, ix200, ix240, ix400, ix2200, ix3000, ix6000, ix8800, ix11520, ix23040, ix36864, show hn ((5, z) : MH) = 5 from rfl, show wi (B107 z) 50 3 (0 : Int32) = B108 z from rfl]
  rintro _ rfl
  try simp only [hB108, hn_wr, hn_wi, hn_wl, ix3, ix4, ix6, ix8, ix9, ix12, ix13, ix16, ix20, ix24, ix40, ix48, ix60, ix100, ix192, ix200, ix240, ix400, ix2200, ix3000, ix6000, ix8800, ix11520, ix23040, ix36864, show hn ((5, z) : MH) = 5 from rfl, show wl (B108 z) 50 4 (0 : Int64) = B109 z from rfl]
  refine v_Phases_init_4 _ _ _ _ _ ?_
  refine ⟨kB109_50, ?_⟩
  rintro _ rfl
  try simp only [hB109, hn_wr, hn_wi, hn_wl, ix3, ix4, ix6, ix8, ix9, ix12, ix13, ix16, ix20, ix24, ix40, ix48, ix60, ix100, ix192, ix200, ix240, ix400, ix2200, ix3000, ix6000, ix8800, ix11520, ix23040, ix36864, show hn ((5, z) : MH) = 5 from rfl, show wl (B109 z) 50 5 (1 : Int64) = B110 z from rfl]
  refine gd_i rfl ?_
  refine gd_i rfl ?_
  try simp only [hB109, hn_wr, hn_wi, hn_wl, ix3, ix4, ix6, ix8, ix9, ix12, ix13, ix16, ix20, ix24, ix40, ix48, ix60, ix100, ix192, ix200, ix240, ix400, ix2200, ix3000, ix6000, ix8800, ix11520, ix23040, ix36864, show hn ((5, z) : MH) = 5 from rfl, show wl (B109 z) 50 5 (1 : Int64) = B110 z from rfl]
  refine ⟨kB110_5, ?_⟩
  rintro _ rfl
  try simp only [hB110, hn_wr, hn_wi, hn_wl, ix3, ix4, ix6, ix8, ix9, ix12, ix13, ix16, ix20, ix24, ix40, ix48, ix60, ix100, ix192, ix200, ix240, ix400, ix2200, ix3000, ix6000, ix8800, ix11520, ix23040, ix36864, show hn ((5, z) : MH) = 5 from rfl, show wr (B110 z) 5 18 50 = B111 z from rfl]
  refine v_Ho_init_15 _ _ _ _ ?_
  refine gd_i rfl ?_
  refine gd_i rfl ?_
  try simp only [hB110, hn_wr, hn_wi, hn_wl, ix3, ix4, ix6, ix8, ix9, ix12, ix13, ix16, ix20, ix24, ix40, ix48, ix60, ix100, ix192, ix200, ix240, ix400, ix2200, ix3000, ix6000, ix8800, ix11520, ix23040, ix36864, show hn ((5, z) : MH) = 5 from rfl, show wr (B110 z) 5 18 50 = B111 z from rfl]
  rintro _ rfl
  try simp only [hB111, hn_wr, hn_wi, hn_wl, ix3, ix4, ix6, ix8, ix9, ix12, ix13, ix16, ix20, ix24, ix40, ix48, ix60, ix100, ix192, ix200, ix240, ix400, ix2200, ix3000, ix6000, ix8800, ix11520, ix23040, ix36864, show hn ((5, z) : MH) = 5 from rfl, show nw (B111 z) 13 0 = B112 z from rfl]
  refine ⟨kB112_54, ?_⟩
  refine v_Ref_init _ _ _ ?_
  refine ⟨by decide, ?_⟩
  rintro _ rfl
  try simp only [hB112, hn_wr, hn_wi, hn_wl, ix3, ix4, ix6, ix8, ix9, ix12, ix13, ix16, ix20, ix24, ix40, ix48, ix60, ix100, ix192, ix200, ix240, ix400, ix2200, ix3000, ix6000, ix8800, ix11520, ix23040, ix36864, show hn ((5, z) : MH) = 5 from rfl, show nw (B112 z) 20 40 = B113 z from rfl]
  refine ⟨kB113_54, ?_⟩
  rintro _ rfl
  try simp only [hB113, hn_wr, hn_wi, hn_wl, ix3, ix4, ix6, ix8, ix9, ix12, ix13, ix16, ix20, ix24, ix40, ix48, ix60, ix100, ix192, ix200, ix240, ix400, ix2200, ix3000, ix6000, ix8800, ix11520, ix23040, ix36864, show hn ((5, z) : MH) = 5 from rfl, show wr (B113 z) 54 0 55 = B114 z from rfl]
  refine v_Ref_init_1 _ _ _ _ _ ?_
  refine gd_i rfl ?_
  refine gd_i rfl ?_
  rintro _ rfl
  try simp only [hB114, hn_wr, hn_wi, hn_wl, ix3, ix4, ix6, ix8, ix9, ix12, ix13, ix16, ix20, ix24, ix40, ix48, ix60, ix100, ix192, ix200, ix240, ix400, ix2200, ix3000, ix6000, ix8800, ix11520, ix23040, ix36864, show hn ((5, z) : MH) = 5 from rfl, show nw (B114 z) 20 40 = B115 z from rfl]
  refine ⟨kB115_54, ?_⟩
  rintro _ rfl
  try simp only [hB115, hn_wr, hn_wi, hn_wl, ix3, ix4, ix6, ix8, ix9, ix12, ix13, ix16, ix20, ix24, ix40, ix48, ix60, ix100, ix192, ix200, ix240, ix400, ix2200, ix3000, ix6000, ix8800, ix11520, ix23040, ix36864, show hn ((5, z) : MH) = 5 from rfl, show wr (B115 z) 54 2 56 = B116 z from rfl]
  refine v_Ref_init_2 _ _ _ _ _ ?_
  refine gd_i rfl ?_
  refine gd_i rfl ?_
  rintro _ rfl
  try simp only [hB116, hn_wr, hn_wi, hn_wl, ix3, ix4, ix6, ix8, ix9, ix12, ix13, ix16, ix20, ix24, ix40, ix48, ix60, ix100, ix192, ix200, ix240, ix400, ix2200, ix3000, ix6000, ix8800, ix11520, ix23040, ix36864, show hn ((5, z) : MH) = 5 from rfl, show nw (B116 z) 20 9 = B117 z from rfl]
  refine ⟨kB117_54, ?_⟩
  rintro _ rfl
  try simp only [hB117, hn_wr, hn_wi, hn_wl, ix3, ix4, ix6, ix8, ix9, ix12, ix13, ix16, ix20, ix24, ix40, ix48, ix60, ix100, ix192, ix200, ix240, ix400, ix2200, ix3000, ix6000, ix8800, ix11520, ix23040, ix36864, show hn ((5, z) : MH) = 5 from rfl, show wr (B117 z) 54 3 57 = B118 z from rfl]
  refine v_Ref_init_3 _ _ _ _ _ ?_
  refine gd_i rfl ?_
  refine gd_i rfl ?_
  rintro _ rfl
  try simp only [hB118, hn_wr, hn_wi, hn_wl, ix3, ix4, ix6, ix8, ix9, ix12, ix13, ix16, ix20, ix24, ix40, ix48, ix60, ix100, ix192, ix200, ix240, ix400, ix2200, ix3000, ix6000, ix8800, ix11520, ix23040, ix36864, show hn ((5, z) : MH) = 5 from rfl, show nw (B118 z) 20 3 = B119 z from rfl]
  refine ⟨kB119_54, ?_⟩
  rintro _ rfl
  try simp only [hB119, hn_wr, hn_wi, hn_wl, ix3, ix4, ix6, ix8, ix9, ix12, ix13, ix16, ix20, ix24, ix40, ix48, ix60, ix100, ix192, ix200, ix240, ix400, ix2200, ix3000, ix6000, ix8800, ix11520, ix23040, ix36864, show hn ((5, z) : MH) = 5 from rfl, show wr (B119 z) 54 4 58 = B120 z from rfl]
  refine v_Ref_init_4 _ _ _ _ _ ?_
  refine gd_i rfl ?_
  refine gd_i rfl ?_
  rintro _ rfl
  try simp only [hB120, hn_wr, hn_wi, hn_wl, ix3, ix4, ix6, ix8, ix9, ix12, ix13, ix16, ix20, ix24, ix40, ix48, ix60, ix100, ix192, ix200, ix240, ix400, ix2200, ix3000, ix6000, ix8800, ix11520, ix23040, ix36864, show hn ((5, z) : MH) = 5 from rfl, show nw (B120 z) 20 9 = B121 z from rfl]
  refine ⟨kB121_54, ?_⟩
  rintro _ rfl
  try simp only [hB121, hn_wr, hn_wi, hn_wl, ix3, ix4, ix6, ix8, ix9, ix12, ix13, ix16, ix20, ix24, ix40, ix48, ix60, ix100, ix192, ix200, ix240, ix400, ix2200, ix3000, ix6000, ix8800, ix11520, ix23040, ix36864, show hn ((5, z) : MH) = 5 from rfl, show wr (B121 z) 54 5 59 = B122 z from rfl]
  refine v_Ref_init_5 _ _ _ _ _ ?_
  refine gd_i rfl ?_
  refine gd_i rfl ?_
  rintro _ rfl
  try simp only [hB122, hn_wr, hn_wi, hn_wl, ix3, ix4, ix6, ix8, ix9, ix12, ix13, ix16, ix20, ix24, ix40, ix48, ix60, ix100, ix192, ix200, ix240, ix400, ix2200, ix3000, ix6000, ix8800, ix11520, ix23040, ix36864, show hn ((5, z) : MH) = 5 from rfl, show nw (B122 z) 20 3 = B123 z from rfl]
  refine ⟨kB123_54, ?_⟩
  rintro _ rfl
  try simp only [hB123, hn_wr, hn_wi, hn_wl, ix3, ix4, ix6, ix8, ix9, ix12, ix13, ix16, ix20, ix24, ix40, ix48, ix60, ix100, ix192, ix200, ix240, ix400, ix2200, ix3000, ix6000, ix8800, ix11520, ix23040, ix36864, show hn ((5, z) : MH) = 5 from rfl, show wr (B123 z) 54 6 60 = B124 z from rfl]
  refine v_Ref_init_6 _ _ _ _ _ ?_
  refine gd_i rfl ?_
  refine gd_i rfl ?_
  rintro _ rfl
  try simp only [hB124, hn_wr, hn_wi, hn_wl, ix3, ix4, ix6, ix8, ix9, ix12, ix13, ix16, ix20, ix24, ix40, ix48, ix60, ix100, ix192, ix200, ix240, ix400, ix2200, ix3000, ix6000, ix8800, ix11520, ix23040, ix36864, show hn ((5, z) : MH) = 5 from rfl, show nw (B124 z) 20 20 = B125 z from rfl]
  refine ⟨kB125_54, ?_⟩
  rintro _ rfl
  try simp only [hB125, hn_wr, hn_wi, hn_wl, ix3, ix4, ix6, ix8, ix9, ix12, ix13, ix16, ix20, ix24, ix40, ix48, ix60, ix100, ix192, ix200, ix240, ix400, ix2200, ix3000, ix6000, ix8800, ix11520, ix23040, ix36864, show hn ((5, z) : MH) = 5 from rfl, show wr (B125 z) 54 7 61 = B126 z from rfl]
  refine v_Ref_init_7 _ _ _ _ _ ?_
  refine gd_i rfl ?_
  refine gd_i rfl ?_
  rintro _ rfl
  try simp only [hB126, hn_wr, hn_wi, hn_wl, ix3, ix4, ix6, ix8, ix9, ix12, ix13, ix16, ix20, ix24, ix40, ix48, ix60, ix100, ix192, ix200, ix240, ix400, ix2200, ix3000, ix6000, ix8800, ix11520, ix23040, ix36864, show hn ((5, z) : MH) = 5 from rfl, show nw (B126 z) 20 100 = B127 z from rfl]
  refine ⟨kB127_54, ?_⟩
  rintro _ rfl
  try simp only [hB127, hn_wr, hn_wi, hn_wl, ix3, ix4, ix6, ix8, ix9, ix12, ix13, ix16, ix20, ix24, ix40, ix48, ix60, ix100, ix192, ix200, ix240, ix400, ix2200, ix3000, ix6000, ix8800, ix11520, ix23040, ix36864, show hn ((5, z) : MH) = 5 from rfl, show wr (B127 z) 54 8 62 = B128 z from rfl]
  refine v_Ref_init_8 _ _ _ _ _ ?_
  refine ⟨kB128_54, ?_⟩
  rintro _ rfl
  try simp only [hB128, hn_wr, hn_wi, hn_wl, ix3, ix4, ix6, ix8, ix9, ix12, ix13, ix16, ix20, ix24, ix40, ix48, ix60, ix100, ix192, ix200, ix240, ix400, ix2200, ix3000, ix6000, ix8800, ix11520, ix23040, ix36864, show hn ((5, z) : MH) = 5 from rfl, show wi (B128 z) 54 11 (-1 : Int32) = B129 z from rfl]
  refine gd_i rfl ?_
  refine gd_i rfl ?_
  rintro _ rfl
  try simp only [hB129, hn_wr, hn_wi, hn_wl, ix3, ix4, ix6, ix8, ix9, ix12, ix13, ix16, ix20, ix24, ix40, ix48, ix60, ix100, ix192, ix200, ix240, ix400, ix2200, ix3000, ix6000, ix8800, ix11520, ix23040, ix36864, show hn ((5, z) : MH) = 5 from rfl, show nw (B129 z) 20 60 = B130 z from rfl]
  refine ⟨kB130_54, ?_⟩
  rintro _ rfl
  try simp only [hB130, hn_wr, hn_wi, hn_wl, ix3, ix4, ix6, ix8, ix9, ix12, ix13, ix16, ix20, ix24, ix40, ix48, ix60, ix100, ix192, ix200, ix240, ix400, ix2200, ix3000, ix6000, ix8800, ix11520, ix23040, ix36864, show hn ((5, z) : MH) = 5 from rfl, show wr (B130 z) 54 13 63 = B131 z from rfl]
  refine v_Ref_init_9 _ _ _ _ _ ?_
  refine gd_i rfl ?_
  refine gd_i rfl ?_
  rintro _ rfl
  try simp only [hB131, hn_wr, hn_wi, hn_wl, ix3, ix4, ix6, ix8, ix9, ix12, ix13, ix16, ix20, ix24, ix40, ix48, ix60, ix100, ix192, ix200, ix240, ix400, ix2200, ix3000, ix6000, ix8800, ix11520, ix23040, ix36864, show hn ((5, z) : MH) = 5 from rfl, show nw (B131 z) 20 11520 = B132 z from rfl]
  refine ⟨kB132_54, ?_⟩
  rintro _ rfl
  try simp only [hB132, hn_wr, hn_wi, hn_wl, ix3, ix4, ix6, ix8, ix9, ix12, ix13, ix16, ix20, ix24, ix40, ix48, ix60, ix100, ix192, ix200, ix240, ix400, ix2200, ix3000, ix6000, ix8800, ix11520, ix23040, ix36864, show hn ((5, z) : MH) = 5 from rfl, show wr (B132 z) 54 15 64 = B133 z from rfl]
  refine v_Ref_init_10 _ _ _ _ _ ?_
  refine gd_i rfl ?_
  refine gd_i rfl ?_
  rintro _ rfl
  try simp only [hB133, hn_wr, hn_wi, hn_wl, ix3, ix4, ix6, ix8, ix9, ix12, ix13, ix16, ix20, ix24, ix40, ix48, ix60, ix100, ix192, ix200, ix240, ix400, ix2200, ix3000, ix6000, ix8800, ix11520, ix23040, ix36864, show hn ((5, z) : MH) = 5 from rfl, show nw (B133 z) 20 60 = B134 z from rfl]
  refine ⟨kB134_54, ?_⟩
  rintro _ rfl
  try simp only [hB134, hn_wr, hn_wi, hn_wl, ix3, ix4, ix6, ix8, ix9, ix12, ix13, ix16, ix20, ix24, ix40, ix48, ix60, ix100, ix192, ix200, ix240, ix400, ix2200, ix3000, ix6000, ix8800, ix11520, ix23040, ix36864, show hn ((5, z) : MH) = 5 from rfl, show wr (B134 z) 54 16 65 = B135 z from rfl]
  refine v_Ref_init_11 _ _ _ _ _ ?_
  refine gd_i rfl ?_
  refine gd_i rfl ?_
  rintro _ rfl
  try simp only [hB135, hn_wr, hn_wi, hn_wl, ix3, ix4, ix6, ix8, ix9, ix12, ix13, ix16, ix20, ix24, ix40, ix48, ix60, ix100, ix192, ix200, ix240, ix400, ix2200, ix3000, ix6000, ix8800, ix11520, ix23040, ix36864, show hn ((5, z) : MH) = 5 from rfl, show nw (B135 z) 20 200 = B136 z from rfl]
  refine ⟨kB136_54, ?_⟩
  rintro _ rfl
  try simp only [hB136, hn_wr, hn_wi, hn_wl, ix3, ix4, ix6, ix8, ix9, ix12, ix13, ix16, ix20, ix24, ix40, ix48, ix60, ix100, ix192, ix200, ix240, ix400, ix2200, ix3000, ix6000, ix8800, ix11520, ix23040, ix36864, show hn ((5, z) : MH) = 5 from rfl, show wr (B136 z) 54 18 66 = B137 z from rfl]
  refine v_Ref_init_12 _ _ _ _ _ ?_
  refine gd_i rfl ?_
  refine gd_i rfl ?_
  rintro _ rfl
  try simp only [hB137, hn_wr, hn_wi, hn_wl, ix3, ix4, ix6, ix8, ix9, ix12, ix13, ix16, ix20, ix24, ix40, ix48, ix60, ix100, ix192, ix200, ix240, ix400, ix2200, ix3000, ix6000, ix8800, ix11520, ix23040, ix36864, show hn ((5, z) : MH) = 5 from rfl, show nw (B137 z) 20 60 = B138 z from rfl]
  refine ⟨kB138_54, ?_⟩
  rintro _ rfl
  try simp only [hB138, hn_wr, hn_wi, hn_wl, ix3, ix4, ix6, ix8, ix9, ix12, ix13, ix16, ix20, ix24, ix40, ix48, ix60, ix100, ix192, ix200, ix240, ix400, ix2200, ix3000, ix6000, ix8800, ix11520, ix23040, ix36864, show hn ((5, z) : MH) = 5 from rfl, show wr (B138 z) 54 20 67 = B139 z from rfl]
  refine v_Ref_init_13 _ _ _ _ _ ?_
  refine gd_i rfl ?_
  refine gd_i rfl ?_
  rintro _ rfl
  try simp only [hB139, hn_wr, hn_wi, hn_wl, ix3, ix4, ix6, ix8, ix9, ix12, ix13, ix16, ix20, ix24, ix40, ix48, ix60, ix100, ix192, ix200, ix240, ix400, ix2200, ix3000, ix6000, ix8800, ix11520, ix23040, ix36864, show hn ((5, z) : MH) = 5 from rfl, show nw (B139 z) 20 60 = B140 z from rfl]
  refine ⟨kB140_54, ?_⟩
  rintro _ rfl
  try simp only [hB140, hn_wr, hn_wi, hn_wl, ix3, ix4, ix6, ix8, ix9, ix12, ix13, ix16, ix20, ix24, ix40, ix48, ix60, ix100, ix192, ix200, ix240, ix400, ix2200, ix3000, ix6000, ix8800, ix11520, ix23040, ix36864, show hn ((5, z) : MH) = 5 from rfl, show wr (B140 z) 54 21 68 = B141 z from rfl]
  refine v_Ref_init_14 _ _ _ _ _ ?_
  refine gd_i rfl ?_
  refine gd_i rfl ?_
  rintro _ rfl
  try simp only [hB141, hn_wr, hn_wi, hn_wl, ix3, ix4, ix6, ix8, ix9, ix12, ix13, ix16, ix20, ix24, ix40, ix48, ix60, ix100, ix192, ix200, ix240, ix400, ix2200, ix3000, ix6000, ix8800, ix11520, ix23040, ix36864, show hn ((5, z) : MH) = 5 from rfl, show nw (B141 z) 22 60 = B142 z from rfl]
  refine ⟨kB142_54, ?_⟩
  rintro _ rfl
  try simp only [hB142, hn_wr, hn_wi, hn_wl, ix3, ix4, ix6, ix8, ix9, ix12, ix13, ix16, ix20, ix24, ix40, ix48, ix60, ix100, ix192, ix200, ix240, ix400, ix2200, ix3000, ix6000, ix8800, ix11520, ix23040, ix36864, show hn ((5, z) : MH) = 5 from rfl, show wr (B142 z) 54 22 69 = B143 z from rfl]
  refine v_Ref_init_15 _ _ _ _ _ ?_
  refine gd_i rfl ?_
  refine gd_i rfl ?_
  rintro _ rfl
  try simp only [hB143, hn_wr, hn_wi, hn_wl, ix3, ix4, ix6, ix8, ix9, ix12, ix13, ix16, ix20, ix24, ix40, ix48, ix60, ix100, ix192, ix200, ix240, ix400, ix2200, ix3000, ix6000, ix8800, ix11520, ix23040, ix36864, show hn ((5, z) : MH) = 5 from rfl, show nw (B143 z) 21 23040 = B144 z from rfl]
  refine ⟨kB144_54, ?_⟩
  rintro _ rfl
  try simp only [hB144, hn_wr, hn_wi, hn_wl, ix3, ix4, ix6, ix8, ix9, ix12, ix13, ix16, ix20, ix24, ix40, ix48, ix60, ix100, ix192, ix200, ix240, ix400, ix2200, ix3000, ix6000, ix8800, ix11520, ix23040, ix36864, show hn ((5, z) : MH) = 5 from rfl, show wr (B144 z) 54 23 70 = B145 z from rfl]
  refine v_Ref_init_16 _ _ _ _ _ ?_
  refine gd_i rfl ?_
  refine gd_i rfl ?_
  rintro _ rfl
  try simp only [hB145, hn_wr, hn_wi, hn_wl, ix3, ix4, ix6, ix8, ix9, ix12, ix13, ix16, ix20, ix24, ix40, ix48, ix60, ix100, ix192, ix200, ix240, ix400, ix2200, ix3000, ix6000, ix8800, ix11520, ix23040, ix36864, show hn ((5, z) : MH) = 5 from rfl, show nw (B145 z) 20 36864 = B146 z from rfl]
  refine ⟨kB146_54, ?_⟩
  rintro _ rfl
  try simp only [hB146, hn_wr, hn_wi, hn_wl, ix3, ix4, ix6, ix8, ix9, ix12, ix13, ix16, ix20, ix24, ix40, ix48, ix60, ix100, ix192, ix200, ix240, ix400, ix2200, ix3000, ix6000, ix8800, ix11520, ix23040, ix36864, show hn ((5, z) : MH) = 5 from rfl, show wr (B146 z) 54 24 71 = B147 z from rfl]
  refine v_Ref_init_17 _ _ _ _ _ ?_
  refine gd_i rfl ?_
  refine gd_i rfl ?_
  rintro _ rfl
  try simp only [hB147, hn_wr, hn_wi, hn_wl, ix3, ix4, ix6, ix8, ix9, ix12, ix13, ix16, ix20, ix24, ix40, ix48, ix60, ix100, ix192, ix200, ix240, ix400, ix2200, ix3000, ix6000, ix8800, ix11520, ix23040, ix36864, show hn ((5, z) : MH) = 5 from rfl, show nw (B147 z) 20 200 = B148 z from rfl]
  refine ⟨kB148_54, ?_⟩
  rintro _ rfl
  try simp only [hB148, hn_wr, hn_wi, hn_wl, ix3, ix4, ix6, ix8, ix9, ix12, ix13, ix16, ix20, ix24, ix40, ix48, ix60, ix100, ix192, ix200, ix240, ix400, ix2200, ix3000, ix6000, ix8800, ix11520, ix23040, ix36864, show hn ((5, z) : MH) = 5 from rfl, show wr (B148 z) 54 25 72 = B149 z from rfl]
  refine v_Ref_init_18 _ _ _ _ _ ?_
  refine gd_i rfl ?_
  refine gd_i rfl ?_
  rintro _ rfl
  try simp only [hB149, hn_wr, hn_wi, hn_wl, ix3, ix4, ix6, ix8, ix9, ix12, ix13, ix16, ix20, ix24, ix40, ix48, ix60, ix100, ix192, ix200, ix240, ix400, ix2200, ix3000, ix6000, ix8800, ix11520, ix23040, ix36864, show hn ((5, z) : MH) = 5 from rfl, show nw (B149 z) 20 16 = B150 z from rfl]
  refine ⟨kB150_54, ?_⟩
  rintro _ rfl
  try simp only [hB150, hn_wr, hn_wi, hn_wl, ix3, ix4, ix6, ix8, ix9, ix12, ix13, ix16, ix20, ix24, ix40, ix48, ix60, ix100, ix192, ix200, ix240, ix400, ix2200, ix3000, ix6000, ix8800, ix11520, ix23040, ix36864, show hn ((5, z) : MH) = 5 from rfl, show wr (B150 z) 54 26 73 = B151 z from rfl]
  refine v_Ref_init_19 _ _ _ _ _ ?_
  refine gd_i rfl ?_
  refine gd_i rfl ?_
  rintro _ rfl
  try simp only [hB151, hn_wr, hn_wi, hn_wl, ix3, ix4, ix6, ix8, ix9, ix12, ix13, ix16, ix20, ix24, ix40, ix48, ix60, ix100, ix192, ix200, ix240, ix400, ix2200, ix3000, ix6000, ix8800, ix11520, ix23040, ix36864, show hn ((5, z) : MH) = 5 from rfl, show nw (B151 z) 20 200 = B152 z from rfl]
  refine ⟨kB152_54, ?_⟩
  rintro _ rfl
  try simp only [hB152, hn_wr, hn_wi, hn_wl, ix3, ix4, ix6, ix8, ix9, ix12, ix13, ix16, ix20, ix24, ix40, ix48, ix60, ix100, ix192, ix200, ix240, ix400, ix2200, ix3000, ix6000, ix8800, ix11520, ix23040, ix36864, show hn ((5, z) : MH) = 5 from rfl, show wr (B152 z) 54 27 74 = B153 z from rfl]
  refine v_Ref_init_20 _ _ _ _ _ ?_
  refine gd_i rfl ?_
  refine gd_i rfl ?_
  rintro _ rfl
  try simp only [hB153, hn_wr, hn_wi, hn_wl, ix3, ix4, ix6, ix8, ix9, ix12, ix13, ix16, ix20, ix24, ix40, ix48, ix60, ix100, ix192, ix200, ix240, ix400, ix2200, ix3000, ix6000, ix8800, ix11520, ix23040, ix36864, show hn ((5, z) : MH) = 5 from rfl, show nw (B153 z) 20 13 = B154 z from rfl]
  refine ⟨kB154_54, ?_⟩
  rintro _ rfl
  try simp only [hB154, hn_wr, hn_wi, hn_wl, ix3, ix4, ix6, ix8, ix9, ix12, ix13, ix16, ix20, ix24, ix40, ix48, ix60, ix100, ix192, ix200, ix240, ix400, ix2200, ix3000, ix6000, ix8800, ix11520, ix23040, ix36864, show hn ((5, z) : MH) = 5 from rfl, show wr (B154 z) 54 28 75 = B155 z from rfl]
  refine v_Ref_init_21 _ _ _ _ _ ?_
  refine gd_i rfl ?_
  refine gd_i rfl ?_
  rintro _ rfl
  try simp only [hB155, hn_wr, hn_wi, hn_wl, ix3, ix4, ix6, ix8, ix9, ix12, ix13, ix16, ix20, ix24, ix40, ix48, ix60, ix100, ix192, ix200, ix240, ix400, ix2200, ix3000, ix6000, ix8800, ix11520, ix23040, ix36864, show hn ((5, z) : MH) = 5 from rfl, show nw (B155 z) 21 240 = B156 z from rfl]
  refine ⟨kB156_54, ?_⟩
  rintro _ rfl
  try simp only [hB156, hn_wr, hn_wi, hn_wl, ix3, ix4, ix6, ix8, ix9, ix12, ix13, ix16, ix20, ix24, ix40, ix48, ix60, ix100, ix192, ix200, ix240, ix400, ix2200, ix3000, ix6000, ix8800, ix11520, ix23040, ix36864, show hn ((5, z) : MH) = 5 from rfl, show wr (B156 z) 54 29 76 = B157 z from rfl]
  refine v_Ref_init_22 _ _ _ _ _ ?_
  refine gd_i rfl ?_
  refine gd_i rfl ?_
  rintro _ rfl
  try simp only [hB157, hn_wr, hn_wi, hn_wl, ix3, ix4, ix6, ix8, ix9, ix12, ix13, ix16, ix20, ix24, ix40, ix48, ix60, ix100, ix192, ix200, ix240, ix400, ix2200, ix3000, ix6000, ix8800, ix11520, ix23040, ix36864, show hn ((5, z) : MH) = 5 from rfl, show nw (B157 z) 21 240 = B158 z from rfl]
  refine ⟨kB158_54, ?_⟩
  rintro _ rfl
  try simp only [hB158, hn_wr, hn_wi, hn_wl, ix3, ix4, ix6, ix8, ix9, ix12, ix13, ix16, ix20, ix24, ix40, ix48, ix60, ix100, ix192, ix200, ix240, ix400, ix2200, ix3000, ix6000, ix8800, ix11520, ix23040, ix36864, show hn ((5, z) : MH) = 5 from rfl, show wr (B158 z) 54 30 77 = B159 z from rfl]
  refine v_Ref_init_23 _ _ _ _ _ ?_
  refine gd_i rfl ?_
  refine gd_i rfl ?_
  rintro _ rfl
  try simp only [hB159, hn_wr, hn_wi, hn_wl, ix3, ix4, ix6, ix8, ix9, ix12, ix13, ix16, ix20, ix24, ix40, ix48, ix60, ix100, ix192, ix200, ix240, ix400, ix2200, ix3000, ix6000, ix8800, ix11520, ix23040, ix36864, show hn ((5, z) : MH) = 5 from rfl, show nw (B159 z) 20 40 = B160 z from rfl]
  refine ⟨kB160_54, ?_⟩
  rintro _ rfl
  try simp only [hB160, hn_wr, hn_wi, hn_wl, ix3, ix4, ix6, ix8, ix9, ix12, ix13, ix16, ix20, ix24, ix40, ix48, ix60, ix100, ix192, ix200, ix240, ix400, ix2200, ix3000, ix6000, ix8800, ix11520, ix23040, ix36864, show hn ((5, z) : MH) = 5 from rfl, show wr (B160 z) 54 31 78 = B161 z from rfl]
  refine v_Ref_init_24 _ _ _ _ _ ?_
  refine gd_i rfl ?_
  refine gd_i rfl ?_
  rintro _ rfl
  try simp only [hB161, hn_wr, hn_wi, hn_wl, ix3, ix4, ix6, ix8, ix9, ix12, ix13, ix16, ix20, ix24, ix40, ix48, ix60, ix100, ix192, ix200, ix240, ix400, ix2200, ix3000, ix6000, ix8800, ix11520, ix23040, ix36864, show hn ((5, z) : MH) = 5 from rfl, show nw (B161 z) 21 6 = B162 z from rfl]
  refine ⟨kB162_54, ?_⟩
  rintro _ rfl
  try simp only [hB162, hn_wr, hn_wi, hn_wl, ix3, ix4, ix6, ix8, ix9, ix12, ix13, ix16, ix20, ix24, ix40, ix48, ix60, ix100, ix192, ix200, ix240, ix400, ix2200, ix3000, ix6000, ix8800, ix11520, ix23040, ix36864, show hn ((5, z) : MH) = 5 from rfl, show wr (B162 z) 54 33 79 = B163 z from rfl]
  refine v_Ref_init_25 _ _ _ _ _ ?_
  refine gd_i rfl ?_
  refine gd_i rfl ?_
  rintro _ rfl
  try simp only [hB163, hn_wr, hn_wi, hn_wl, ix3, ix4, ix6, ix8, ix9, ix12, ix13, ix16, ix20, ix24, ix40, ix48, ix60, ix100, ix192, ix200, ix240, ix400, ix2200, ix3000, ix6000, ix8800, ix11520, ix23040, ix36864, show hn ((5, z) : MH) = 5 from rfl, show nw (B163 z) 21 3000 = B164 z from rfl]
  refine ⟨kB164_54, ?_⟩
  rintro _ rfl
  try simp only [hB164, hn_wr, hn_wi, hn_wl, ix3, ix4, ix6, ix8, ix9, ix12, ix13, ix16, ix20, ix24, ix40, ix48, ix60, ix100, ix192, ix200, ix240, ix400, ix2200, ix3000, ix6000, ix8800, ix11520, ix23040, ix36864, show hn ((5, z) : MH) = 5 from rfl, show wr (B164 z) 54 34 80 = B165 z from rfl]
  refine v_Ref_init_26 _ _ _ _ _ ?_
  refine ⟨kB165_54, ?_⟩
  rintro _ rfl
  try simp only [hB165, hn_wr, hn_wi, hn_wl, ix3, ix4, ix6, ix8, ix9, ix12, ix13, ix16, ix20, ix24, ix40, ix48, ix60, ix100, ix192, ix200, ix240, ix400, ix2200, ix3000, ix6000, ix8800, ix11520, ix23040, ix36864, show hn ((5, z) : MH) = 5 from rfl, show wi (B165 z) 54 36 (-1 : Int32) = B166 z from rfl]
  refine gd_i rfl ?_
  refine gd_i rfl ?_
  rintro _ rfl
  try simp only [hB166, hn_wr, hn_wi, hn_wl, ix3, ix4, ix6, ix8, ix9, ix12, ix13, ix16, ix20, ix24, ix40, ix48, ix60, ix100, ix192, ix200, ix240, ix400, ix2200, ix3000, ix6000, ix8800, ix11520, ix23040, ix36864, show hn ((5, z) : MH) = 5 from rfl, show nw (B166 z) 20 20 = B167 z from rfl]
  refine ⟨kB167_54, ?_⟩
  rintro _ rfl
  try simp only [hB167, hn_wr, hn_wi, hn_wl, ix3, ix4, ix6, ix8, ix9, ix12, ix13, ix16, ix20, ix24, ix40, ix48, ix60, ix100, ix192, ix200, ix240, ix400, ix2200, ix3000, ix6000, ix8800, ix11520, ix23040, ix36864, show hn ((5, z) : MH) = 5 from rfl, show wr (B167 z) 54 38 81 = B168 z from rfl]
  refine v_Ref_init_27 _ _ _ _ _ ?_
  refine gd_i rfl ?_
  refine gd_i rfl ?_
  rintro _ rfl
  try simp only [hB168, hn_wr, hn_wi, hn_wl, ix3, ix4, ix6, ix8, ix9, ix12, ix13, ix16, ix20, ix24, ix40, ix48, ix60, ix100, ix192, ix200, ix240, ix400, ix2200, ix3000, ix6000, ix8800, ix11520, ix23040, ix36864, show hn ((5, z) : MH) = 5 from rfl, show nw (B168 z) 20 20 = B169 z from rfl]
  refine ⟨kB169_54, ?_⟩
  rintro _ rfl
  try simp only [hB169, hn_wr, hn_wi, hn_wl, ix3, ix4, ix6, ix8, ix9, ix12, ix13, ix16, ix20, ix24, ix40, ix48, ix60, ix100, ix192, ix200, ix240, ix400, ix2200, ix3000, ix6000, ix8800, ix11520, ix23040, ix36864, show hn ((5, z) : MH) = 5 from rfl, show wr (B169 z) 54 39 82 = B170 z from rfl]
  refine v_Ref_init_28 _ _ _ _ _ ?_
  refine gd_i rfl ?_
  refine gd_i rfl ?_
  rintro _ rfl
  try simp only [hB170, hn_wr, hn_wi, hn_wl, ix3, ix4, ix6, ix8, ix9, ix12, ix13, ix16, ix20, ix24, ix40, ix48, ix60, ix100, ix192, ix200, ix240, ix400, ix2200, ix3000, ix6000, ix8800, ix11520, ix23040, ix36864, show hn ((5, z) : MH) = 5 from rfl, show nw (B170 z) 20 20 = B171 z from rfl]
  refine ⟨kB171_54, ?_⟩
  rintro _ rfl
  try simp only [hB171, hn_wr, hn_wi, hn_wl, ix3, ix4, ix6, ix8, ix9, ix12, ix13, ix16, ix20, ix24, ix40, ix48, ix60, ix100, ix192, ix200, ix240, ix400, ix2200, ix3000, ix6000, ix8800, ix11520, ix23040, ix36864, show hn ((5, z) : MH) = 5 from rfl, show wr (B171 z) 54 40 83 = B172 z from rfl]
  refine v_Ref_init_29 _ _ _ _ _ ?_
  refine gd_i rfl ?_
  refine gd_i rfl ?_
  rintro _ rfl
  try simp only [hB172, hn_wr, hn_wi, hn_wl, ix3, ix4, ix6, ix8, ix9, ix12, ix13, ix16, ix20, ix24, ix40, ix48, ix60, ix100, ix192, ix200, ix240, ix400, ix2200, ix3000, ix6000, ix8800, ix11520, ix23040, ix36864, show hn ((5, z) : MH) = 5 from rfl, show nw (B172 z) 20 20 = B173 z from rfl]
  refine ⟨kB173_54, ?_⟩
  rintro _ rfl
  try simp only [hB173, hn_wr, hn_wi, hn_wl, ix3, ix4, ix6, ix8, ix9, ix12, ix13, ix16, ix20, ix24, ix40, ix48, ix60, ix100, ix192, ix200, ix240, ix400, ix2200, ix3000, ix6000, ix8800, ix11520, ix23040, ix36864, show hn ((5, z) : MH) = 5 from rfl, show wr (B173 z) 54 41 84 = B174 z from rfl]
  refine v_Ref_init_30 _ _ _ _ _ ?_
  refine gd_i rfl ?_
  refine gd_i rfl ?_
  rintro _ rfl
  try simp only [hB174, hn_wr, hn_wi, hn_wl, ix3, ix4, ix6, ix8, ix9, ix12, ix13, ix16, ix20, ix24, ix40, ix48, ix60, ix100, ix192, ix200, ix240, ix400, ix2200, ix3000, ix6000, ix8800, ix11520, ix23040, ix36864, show hn ((5, z) : MH) = 5 from rfl, show nw (B174 z) 20 6000 = B175 z from rfl]
  refine ⟨kB175_54, ?_⟩
  rintro _ rfl
  try simp only [hB175, hn_wr, hn_wi, hn_wl, ix3, ix4, ix6, ix8, ix9, ix12, ix13, ix16, ix20, ix24, ix40, ix48, ix60, ix100, ix192, ix200, ix240, ix400, ix2200, ix3000, ix6000, ix8800, ix11520, ix23040, ix36864, show hn ((5, z) : MH) = 5 from rfl, show wr (B175 z) 54 42 85 = B176 z from rfl]
  refine v_Ref_init_31 _ _ _ _ _ ?_
  refine gd_i rfl ?_
  refine gd_i rfl ?_
  rintro _ rfl
  try simp only [hB176, hn_wr, hn_wi, hn_wl, ix3, ix4, ix6, ix8, ix9, ix12, ix13, ix16, ix20, ix24, ix40, ix48, ix60, ix100, ix192, ix200, ix240, ix400, ix2200, ix3000, ix6000, ix8800, ix11520, ix23040, ix36864, show hn ((5, z) : MH) = 5 from rfl, show nw (B176 z) 20 6000 = B177 z from rfl]
  refine ⟨kB177_54, ?_⟩
  rintro _ rfl
  try simp only [hB177, hn_wr, hn_wi, hn_wl, ix3, ix4, ix6, ix8, ix9, ix12, ix13, ix16, ix20, ix24, ix40, ix48, ix60, ix100, ix192, ix200, ix240, ix400, ix2200, ix3000, ix6000, ix8800, ix11520, ix23040, ix36864, show hn ((5, z) : MH) = 5 from rfl, show wr (B177 z) 54 43 86 = B178 z from rfl]
  refine v_Ref_init_32 _ _ _ _ _ ?_
  refine gd_i rfl ?_
  refine gd_i rfl ?_
  rintro _ rfl
  try simp only [hB178, hn_wr, hn_wi, hn_wl, ix3, ix4, ix6, ix8, ix9, ix12, ix13, ix16, ix20, ix24, ix40, ix48, ix60, ix100, ix192, ix200, ix240, ix400, ix2200, ix3000, ix6000, ix8800, ix11520, ix23040, ix36864, show hn ((5, z) : MH) = 5 from rfl, show nw (B178 z) 20 6000 = B179 z from rfl]
  refine ⟨kB179_54, ?_⟩
  rintro _ rfl
  try simp only [hB179, hn_wr, hn_wi, hn_wl, ix3, ix4, ix6, ix8, ix9, ix12, ix13, ix16, ix20, ix24, ix40, ix48, ix60, ix100, ix192, ix200, ix240, ix400, ix2200, ix3000, ix6000, ix8800, ix11520, ix23040, ix36864, show hn ((5, z) : MH) = 5 from rfl, show wr (B179 z) 54 44 87 = B180 z from rfl]
  refine v_Ref_init_33 _ _ _ _ _ ?_
  refine gd_i rfl ?_
  refine gd_i rfl ?_
  rintro _ rfl
  try simp only [hB180, hn_wr, hn_wi, hn_wl, ix3, ix4, ix6, ix8, ix9, ix12, ix13, ix16, ix20, ix24, ix40, ix48, ix60, ix100, ix192, ix200, ix240, ix400, ix2200, ix3000, ix6000, ix8800, ix11520, ix23040, ix36864, show hn ((5, z) : MH) = 5 from rfl, show nw (B180 z) 21 12 = B181 z from rfl]
  refine ⟨kB181_54, ?_⟩
  rintro _ rfl
  try simp only [hB181, hn_wr, hn_wi, hn_wl, ix3, ix4, ix6, ix8, ix9, ix12, ix13, ix16, ix20, ix24, ix40, ix48, ix60, ix100, ix192, ix200, ix240, ix400, ix2200, ix3000, ix6000, ix8800, ix11520, ix23040, ix36864, show hn ((5, z) : MH) = 5 from rfl, show wr (B181 z) 54 46 88 = B182 z from rfl]
  refine v_Ref_init_34 _ _ _ _ _ ?_
  refine gd_i rfl ?_
  refine gd_i rfl ?_
  rintro _ rfl
  try simp only [hB182, hn_wr, hn_wi, hn_wl, ix3, ix4, ix6, ix8, ix9, ix12, ix13, ix16, ix20, ix24, ix40, ix48, ix60, ix100, ix192, ix200, ix240, ix400, ix2200, ix3000, ix6000, ix8800, ix11520, ix23040, ix36864, show hn ((5, z) : MH) = 5 from rfl, show nw (B182 z) 21 2200 = B183 z from rfl]
  refine ⟨kB183_54, ?_⟩
  rintro _ rfl
  try simp only [hB183, hn_wr, hn_wi, hn_wl, ix3, ix4, ix6, ix8, ix9, ix12, ix13, ix16, ix20, ix24, ix40, ix48, ix60, ix100, ix192, ix200, ix240, ix400, ix2200, ix3000, ix6000, ix8800, ix11520, ix23040, ix36864, show hn ((5, z) : MH) = 5 from rfl, show wr (B183 z) 54 47 89 = B184 z from rfl]
  refine v_Ref_init_35 _ _ _ _ _ ?_
  refine gd_i rfl ?_
  refine gd_i rfl ?_
  rintro _ rfl
  try simp only [hB184, hn_wr, hn_wi, hn_wl, ix3, ix4, ix6, ix8, ix9, ix12, ix13, ix16, ix20, ix24, ix40, ix48, ix60, ix100, ix192, ix200, ix240, ix400, ix2200, ix3000, ix6000, ix8800, ix11520, ix23040, ix36864, show hn ((5, z) : MH) = 5 from rfl, show nw (B184 z) 20 2200 = B185 z from rfl]
  refine ⟨kB185_54, ?_⟩
  rintro _ rfl
  try simp only [hB185, hn_wr, hn_wi, hn_wl, ix3, ix4, ix6, ix8, ix9, ix12, ix13, ix16, ix20, ix24, ix40, ix48, ix60, ix100, ix192, ix200, ix240, ix400, ix2200, ix3000, ix6000, ix8800, ix11520, ix23040, ix36864, show hn ((5, z) : MH) = 5 from rfl, show wr (B185 z) 54 48 90 = B186 z from rfl]
  refine v_Ref_init_36 _ _ _ _ _ ?_
  refine gd_i rfl ?_
  refine gd_i rfl ?_
  rintro _ rfl
  try simp only [hB186, hn_wr, hn_wi, hn_wl, ix3, ix4, ix6, ix8, ix9, ix12, ix13, ix16, ix20, ix24, ix40, ix48, ix60, ix100, ix192, ix200, ix240, ix400, ix2200, ix3000, ix6000, ix8800, ix11520, ix23040, ix36864, show hn ((5, z) : MH) = 5 from rfl, show nw (B186 z) 21 8800 = B187 z from rfl]
  refine ⟨kB187_54, ?_⟩
  rintro _ rfl
  try simp only [hB187, hn_wr, hn_wi, hn_wl, ix3, ix4, ix6, ix8, ix9, ix12, ix13, ix16, ix20, ix24, ix40, ix48, ix60, ix100, ix192, ix200, ix240, ix400, ix2200, ix3000, ix6000, ix8800, ix11520, ix23040, ix36864, show hn ((5, z) : MH) = 5 from rfl, show wr (B187 z) 54 49 91 = B188 z from rfl]
  refine v_Ref_init_37 _ _ _ _ _ ?_
  refine ⟨kB188_54, ?_⟩
  rintro _ rfl
  try simp only [hB188, hn_wr, hn_wi, hn_wl, ix3, ix4, ix6, ix8, ix9, ix12, ix13, ix16, ix20, ix24, ix40, ix48, ix60, ix100, ix192, ix200, ix240, ix400, ix2200, ix3000, ix6000, ix8800, ix11520, ix23040, ix36864, show hn ((5, z) : MH) = 5 from rfl, show wi (B188 z) 54 51 (-1 : Int32) = B189 z from rfl]
  refine gd_i rfl ?_
  refine gd_i rfl ?_
  rintro _ rfl
  try simp only [hB189, hn_wr, hn_wi, hn_wl, ix3, ix4, ix6, ix8, ix9, ix12, ix13, ix16, ix20, ix24, ix40, ix48, ix60, ix100, ix192, ix200, ix240, ix400, ix2200, ix3000, ix6000, ix8800, ix11520, ix23040, ix36864, show hn ((5, z) : MH) = 5 from rfl, show nw (B189 z) 20 40 = B190 z from rfl]
  refine ⟨kB190_54, ?_⟩
  rintro _ rfl
  try simp only [hB190, hn_wr, hn_wi, hn_wl, ix3, ix4, ix6, ix8, ix9, ix12, ix13, ix16, ix20, ix24, ix40, ix48, ix60, ix100, ix192, ix200, ix240, ix400, ix2200, ix3000, ix6000, ix8800, ix11520, ix23040, ix36864, show hn ((5, z) : MH) = 5 from rfl, show wr (B190 z) 54 53 92 = B191 z from rfl]
  refine v_Ref_init_38 _ _ _ _ _ ?_
  refine gd_i rfl ?_
  refine gd_i rfl ?_
  rintro _ rfl
  try simp only [hB191, hn_wr, hn_wi, hn_wl, ix3, ix4, ix6, ix8, ix9, ix12, ix13, ix16, ix20, ix24, ix40, ix48, ix60, ix100, ix192, ix200, ix240, ix400, ix2200, ix3000, ix6000, ix8800, ix11520, ix23040, ix36864, show hn ((5, z) : MH) = 5 from rfl, show nw (B191 z) 20 40 = B192 z from rfl]
  refine ⟨kB192_54, ?_⟩
  rintro _ rfl
  try simp only [hB192, hn_wr, hn_wi, hn_wl, ix3, ix4, ix6, ix8, ix9, ix12, ix13, ix16, ix20, ix24, ix40, ix48, ix60, ix100, ix192, ix200, ix240, ix400, ix2200, ix3000, ix6000, ix8800, ix11520, ix23040, ix36864, show hn ((5, z) : MH) = 5 from rfl, show wr (B192 z) 54 54 93 = B193 z from rfl]
  refine v_Ref_init_39 _ _ _ _ _ ?_
  refine gd_i rfl ?_
  refine gd_i rfl ?_
  rintro _ rfl
  try simp only [hB193, hn_wr, hn_wi, hn_wl, ix3, ix4, ix6, ix8, ix9, ix12, ix13, ix16, ix20, ix24, ix40, ix48, ix60, ix100, ix192, ix200, ix240, ix400, ix2200, ix3000, ix6000, ix8800, ix11520, ix23040, ix36864, show hn ((5, z) : MH) = 5 from rfl, show nw (B193 z) 21 40 = B194 z from rfl]
  refine ⟨kB194_54, ?_⟩
  rintro _ rfl
  try simp only [hB194, hn_wr, hn_wi, hn_wl, ix3, ix4, ix6, ix8, ix9, ix12, ix13, ix16, ix20, ix24, ix40, ix48, ix60, ix100, ix192, ix200, ix240, ix400, ix2200, ix3000, ix6000, ix8800, ix11520, ix23040, ix36864, show hn ((5, z) : MH) = 5 from rfl, show wr (B194 z) 54 55 94 = B195 z from rfl]
  refine v_Ref_init_40 _ _ _ _ _ ?_
  refine gd_i rfl ?_
  refine gd_i rfl ?_
  rintro _ rfl
  try simp only [hB195, hn_wr, hn_wi, hn_wl, ix3, ix4, ix6, ix8, ix9, ix12, ix13, ix16, ix20, ix24, ix40, ix48, ix60, ix100, ix192, ix200, ix240, ix400, ix2200, ix3000, ix6000, ix8800, ix11520, ix23040, ix36864, show hn ((5, z) : MH) = 5 from rfl, show nw (B195 z) 20 9 = B196 z from rfl]
  refine ⟨kB196_54, ?_⟩
  rintro _ rfl
  try simp only [hB196, hn_wr, hn_wi, hn_wl, ix3, ix4, ix6, ix8, ix9, ix12, ix13, ix16, ix20, ix24, ix40, ix48, ix60, ix100, ix192, ix200, ix240, ix400, ix2200, ix3000, ix6000, ix8800, ix11520, ix23040, ix36864, show hn ((5, z) : MH) = 5 from rfl, show wr (B196 z) 54 59 95 = B197 z from rfl]
  refine v_Ref_init_41 _ _ _ _ _ ?_
  refine gd_i rfl ?_
  refine gd_i rfl ?_
  rintro _ rfl
  try simp only [hB197, hn_wr, hn_wi, hn_wl, ix3, ix4, ix6, ix8, ix9, ix12, ix13, ix16, ix20, ix24, ix40, ix48, ix60, ix100, ix192, ix200, ix240, ix400, ix2200, ix3000, ix6000, ix8800, ix11520, ix23040, ix36864, show hn ((5, z) : MH) = 5 from rfl, show nw (B197 z) 20 3 = B198 z from rfl]
  refine ⟨kB198_54, ?_⟩
  rintro _ rfl
  try simp only [hB198, hn_wr, hn_wi, hn_wl, ix3, ix4, ix6, ix8, ix9, ix12, ix13, ix16, ix20, ix24, ix40, ix48, ix60, ix100, ix192, ix200, ix240, ix400, ix2200, ix3000, ix6000, ix8800, ix11520, ix23040, ix36864, show hn ((5, z) : MH) = 5 from rfl, show wr (B198 z) 54 60 96 = B199 z from rfl]
  refine v_Ref_init_42 _ _ _ _ _ ?_
  refine gd_i rfl ?_
  refine gd_i rfl ?_
  rintro _ rfl
  try simp only [hB199, hn_wr, hn_wi, hn_wl, ix3, ix4, ix6, ix8, ix9, ix12, ix13, ix16, ix20, ix24, ix40, ix48, ix60, ix100, ix192, ix200, ix240, ix400, ix2200, ix3000, ix6000, ix8800, ix11520, ix23040, ix36864, show hn ((5, z) : MH) = 5 from rfl, show nw (B199 z) 20 200 = B200 z from rfl]
  refine ⟨kB200_54, ?_⟩
  rintro _ rfl
  try simp only [hB200, hn_wr, hn_wi, hn_wl, ix3, ix4, ix6, ix8, ix9, ix12, ix13, ix16, ix20, ix24, ix40, ix48, ix60, ix100, ix192, ix200, ix240, ix400, ix2200, ix3000, ix6000, ix8800, ix11520, ix23040, ix36864, show hn ((5, z) : MH) = 5 from rfl, show wr (B200 z) 54 61 97 = B201 z from rfl]
  refine v_Ref_init_43 _ _ _ _ _ ?_
  refine gd_i rfl ?_
  refine gd_i rfl ?_
  rintro _ rfl
  try simp only [hB201, hn_wr, hn_wi, hn_wl, ix3, ix4, ix6, ix8, ix9, ix12, ix13, ix16, ix20, ix24, ix40, ix48, ix60, ix100, ix192, ix200, ix240, ix400, ix2200, ix3000, ix6000, ix8800, ix11520, ix23040, ix36864, show hn ((5, z) : MH) = 5 from rfl, show nw (B201 z) 20 400 = B202 z from rfl]
  refine ⟨kB202_54, ?_⟩
  rintro _ rfl
  try simp only [hB202, hn_wr, hn_wi, hn_wl, ix3, ix4, ix6, ix8, ix9, ix12, ix13, ix16, ix20, ix24, ix40, ix48, ix60, ix100, ix192, ix200, ix240, ix400, ix2200, ix3000, ix6000, ix8800, ix11520, ix23040, ix36864, show hn ((5, z) : MH) = 5 from rfl, show wr (B202 z) 54 66 98 = B203 z from rfl]
  refine v_Ref_init_44 _ _ _ _ ?_
  refine gd_i rfl ?_
  refine gd_i rfl ?_
  try simp only [hB202, hn_wr, hn_wi, hn_wl, ix3, ix4, ix6, ix8, ix9, ix12, ix13, ix16, ix20, ix24, ix40, ix48, ix60, ix100, ix192, ix200, ix240, ix400, ix2200, ix3000, ix6000, ix8800, ix11520, ix23040, ix36864, show hn ((5, z) : MH) = 5 from rfl, show wr (B202 z) 54 66 98 = B203 z from rfl]
  exact W1
/-! the heap that the constructors leave, as a list of what they do -/
abbrev OP : Type := Nat × Nat × Nat × Int
def doO (o : OP) (h : MH) : MH := match o.1 with
  | 0 => nw h o.2.1 o.2.2.1
  | 1 => wr h o.2.1 o.2.2.1 o.2.2.2.toNat
  | 2 => wi h o.2.1 o.2.2.1 (Int32.ofInt o.2.2.2)
  | _ => wl h o.2.1 o.2.2.1 (Int64.ofInt o.2.2.2)
def runO : List OP → MH → MH
  | [], h => h
  | o :: r, h => runO r (doO o h)
def hO : List OP → Nat → Nat
  | [], n => n
  | o :: r, n => hO r (if o.1 = 0 then n + 1 else n)
def kO : List OP → Nat → Nat → Option Nat
  | [], _, _ => none
  | o :: r, n, a => if o.1 = 0 then (kO r (n + 1) a).or (if a = n then some o.2.1 else none) else kO r n a
def lO : List OP → Nat → Nat → Option Nat
  | [], _, _ => none
  | o :: r, n, a => if o.1 = 0 then (lO r (n + 1) a).or (if a = n then some o.2.2.1 else none) else lO r n a
/-- c: 1 references, 2 ints, 3 longs -/
def vO (c : Nat) : List OP → Nat → Nat → Nat → Option Int
  | [], _, _, _ => none
  | o :: r, n, a, j => if o.1 = 0 then (vO c r (n + 1) a j).or (if a = n then some 0 else none) else (vO c r n a j).or (if o.1 = c ∧ a = o.2.1 ∧ j = o.2.2.1 then some o.2.2.2 else none)
theorem hn_run : ∀ (L : List OP) (h : MH), hn (runO L h) = hO L (hn h)
  | [], _ => rfl
  | (c, a, i, v) :: r, h => by
    show hn (runO r (doO (c, a, i, v) h)) = _
    rw [hn_run r]
    show _ = hO r (if c = 0 then hn h + 1 else hn h)
    rcases c with _ | _ | _ | c <;> rfl
theorem kd_run : ∀ (L : List OP) (h : MH) (b : Nat), kd (runO L h) b = (kO L (hn h) b).getD (kd h b)
  | [], _, _ => rfl
  | (c, a, i, v) :: r, h, b => by
    show kd (runO r (doO (c, a, i, v) h)) b = _
    rw [kd_run r]
    show _ = (if c = 0 then (kO r (hn h + 1) b).or (if b = hn h then some a else none) else kO r (hn h) b).getD (kd h b)
    rcases c with _ | _ | _ | c
    · show (kO r (hn h + 1) b).getD (if b = hn h then a else kd h b) = _
      rw [if_pos rfl]
      cases kO r (hn h + 1) b with
      | some x => rfl
      | none => by_cases e : b = hn h <;> simp [e]
    · rw [if_neg (by omega)]; rfl
    · rw [if_neg (by omega)]; rfl
    · rw [if_neg (by omega)]; rfl
theorem ln_run : ∀ (L : List OP) (h : MH) (b : Nat), ln (runO L h) b = (lO L (hn h) b).getD (ln h b)
  | [], _, _ => rfl
  | (c, a, i, v) :: r, h, b => by
    show ln (runO r (doO (c, a, i, v) h)) b = _
    rw [ln_run r]
    show _ = (if c = 0 then (lO r (hn h + 1) b).or (if b = hn h then some i else none) else lO r (hn h) b).getD (ln h b)
    rcases c with _ | _ | _ | c
    · show (lO r (hn h + 1) b).getD (if b = hn h then i else ln h b) = _
      rw [if_pos rfl]
      cases lO r (hn h + 1) b with
      | some x => rfl
      | none => by_cases e : b = hn h <;> simp [e]
    · rw [if_neg (by omega)]; rfl
    · rw [if_neg (by omega)]; rfl
    · rw [if_neg (by omega)]; rfl
theorem getD_or {α β : Type} (g : α → β) (x y : Option α) (d e : β) (h : (y.map g).getD d = e) : (x.map g).getD e = ((x.or y).map g).getD d := by
  cases x with
  | some _ => rfl
  | none => exact h.symm
theorem mr_run : ∀ (L : List OP) (h : MH) (b j : Nat), mr (runO L h) b j = ((vO 1 L (hn h) b j).map Int.toNat).getD (mr h b j)
  | [], _, _, _ => rfl
  | (c, a, i, v) :: r, h, b, j => by
    show mr (runO r (doO (c, a, i, v) h)) b j = _
    rw [mr_run r]
    show _ = ((if c = 0 then (vO 1 r (hn h + 1) b j).or (if b = hn h then some 0 else none) else (vO 1 r (hn h) b j).or (if c = 1 ∧ b = a ∧ j = i then some v else none)).map Int.toNat).getD (mr h b j)
    rcases c with _ | _ | _ | c
    · rw [if_pos rfl]
      refine getD_or _ _ _ _ _ ?_
      show _ = if b = hn h then 0 else mr h b j
      by_cases e : b = hn h <;> simp [e]
    · rw [if_neg (by omega)]
      refine getD_or _ _ _ _ _ ?_
      show _ = if b = a ∧ j = i then v.toNat else mr h b j
      by_cases e : b = a ∧ j = i <;> simp [e]
    · rw [if_neg (by omega)]
      refine getD_or _ _ _ _ _ ?_
      rw [if_neg (fun q => absurd q.1 (by omega))]
      rfl
    · rw [if_neg (by omega)]
      refine getD_or _ _ _ _ _ ?_
      rw [if_neg (fun q => absurd q.1 (by omega))]
      rfl
theorem mi_run : ∀ (L : List OP) (h : MH) (b j : Nat), mi (runO L h) b j = ((vO 2 L (hn h) b j).map Int32.ofInt).getD (mi h b j)
  | [], _, _, _ => rfl
  | (c, a, i, v) :: r, h, b, j => by
    show mi (runO r (doO (c, a, i, v) h)) b j = _
    rw [mi_run r]
    show _ = ((if c = 0 then (vO 2 r (hn h + 1) b j).or (if b = hn h then some 0 else none) else (vO 2 r (hn h) b j).or (if c = 2 ∧ b = a ∧ j = i then some v else none)).map Int32.ofInt).getD (mi h b j)
    rcases c with _ | _ | _ | c
    · rw [if_pos rfl]
      refine getD_or _ _ _ _ _ ?_
      show _ = if b = hn h then 0 else mi h b j
      by_cases e : b = hn h
      · simp [e]
      · simp [e]
    · rw [if_neg (by omega)]
      refine getD_or _ _ _ _ _ ?_
      rw [if_neg (fun q => absurd q.1 (by omega))]
      rfl
    · rw [if_neg (by omega)]
      refine getD_or _ _ _ _ _ ?_
      show _ = if b = a ∧ j = i then Int32.ofInt v else mi h b j
      by_cases e : b = a ∧ j = i <;> simp [e]
    · rw [if_neg (by omega)]
      refine getD_or _ _ _ _ _ ?_
      rw [if_neg (fun q => absurd q.1 (by omega))]
      rfl
def opL : List OP := [(0, 12, 0, 0), (0, 10, 0, 0), (0, 20, 20, 0), (1, 6, 0, 7), (0, 20, 100, 0), (1, 6, 1, 8), (2, 6, 2, 0), (2, 6, 3, 0), (2, 6, 4, 0), (2, 6, 5, -1), (0, 7, 0, 0), (0, 20, 9, 0), (1, 9, 0, 10), (0, 20, 3, 0), (1, 9, 1, 11), (1, 6, 6, 9), (0, 23, 48, 0), (1, 6, 7, 12), (2, 6, 8, 0), (1, 5, 0, 6), (0, 20, 40, 0), (1, 5, 1, 13), (0, 22, 40, 0), (1, 5, 2, 14), (2, 5, 3, 0), (0, 2, 0, 0), (0, 9, 0, 0), (2, 16, 1, 0), (0, 20, 192, 0), (1, 16, 0, 17), (1, 15, 0, 16), (0, 20, 192, 0), (1, 15, 1, 18), (0, 20, 8, 0), (1, 15, 2, 19), (2, 15, 3, 0), (0, 7, 0, 0), (0, 20, 9, 0), (1, 20, 0, 21), (0, 20, 3, 0), (1, 20, 1, 22), (1, 15, 4, 20), (0, 7, 0, 0), (0, 20, 9, 0), (1, 23, 0, 24), (0, 20, 3, 0), (1, 23, 1, 25), (1, 15, 5, 23), (0, 7, 0, 0), (0, 20, 9, 0), (1, 26, 0, 27), (0, 20, 3, 0), (1, 26, 1, 28), (1, 15, 6, 26), (1, 5, 4, 15), (0, 24, 60, 0), (1, 5, 5, 29), (2, 5, 6, 0), (0, 7, 0, 0), (0, 20, 9, 0), (1, 30, 0, 31), (0, 20, 3, 0), (1, 30, 1, 32), (1, 5, 7, 30), (0, 7, 0, 0), (0, 20, 9, 0), (1, 33, 0, 34), (0, 20, 3, 0), (1, 33, 1, 35), (1, 5, 8, 33), (0, 7, 0, 0), (0, 20, 9, 0), (1, 36, 0, 37), (0, 20, 3, 0), (1, 36, 1, 38), (1, 5, 9, 36), (0, 9, 0, 0), (2, 39, 1, 0), (0, 20, 384, 0), (1, 39, 0, 40), (1, 5, 10, 39), (0, 20, 192, 0), (1, 5, 11, 41), (0, 20, 192, 0), (1, 5, 12, 42), (0, 25, 40, 0), (1, 5, 13, 43), (2, 5, 14, 0), (0, 26, 20, 0), (1, 5, 15, 44), (2, 5, 16, 0), (0, 11, 0, 0), (0, 21, 4, 0), (1, 45, 0, 46), (0, 21, 4, 0), (1, 45, 1, 47), (0, 21, 4, 0), (1, 45, 2, 48), (0, 20, 24, 0), (1, 45, 3, 49), (1, 5, 17, 45), (0, 8, 0, 0), (0, 20, 40, 0), (1, 50, 0, 51), (0, 20, 40, 0), (1, 50, 1, 52), (0, 21, 40, 0), (1, 50, 2, 53), (2, 50, 3, 0), (3, 50, 4, 0), (3, 50, 5, 1), (1, 5, 18, 50), (0, 13, 0, 0), (0, 20, 40, 0), (1, 54, 0, 55), (0, 20, 40, 0), (1, 54, 2, 56), (0, 20, 9, 0), (1, 54, 3, 57), (0, 20, 3, 0), (1, 54, 4, 58), (0, 20, 9, 0), (1, 54, 5, 59), (0, 20, 3, 0), (1, 54, 6, 60), (0, 20, 20, 0), (1, 54, 7, 61), (0, 20, 100, 0), (1, 54, 8, 62), (2, 54, 11, -1), (0, 20, 60, 0), (1, 54, 13, 63), (0, 20, 11520, 0), (1, 54, 15, 64), (0, 20, 60, 0), (1, 54, 16, 65), (0, 20, 200, 0), (1, 54, 18, 66), (0, 20, 60, 0), (1, 54, 20, 67), (0, 20, 60, 0), (1, 54, 21, 68), (0, 22, 60, 0), (1, 54, 22, 69), (0, 21, 23040, 0), (1, 54, 23, 70), (0, 20, 36864, 0), (1, 54, 24, 71), (0, 20, 200, 0), (1, 54, 25, 72), (0, 20, 16, 0), (1, 54, 26, 73), (0, 20, 200, 0), (1, 54, 27, 74), (0, 20, 13, 0), (1, 54, 28, 75), (0, 21, 240, 0), (1, 54, 29, 76), (0, 21, 240, 0), (1, 54, 30, 77), (0, 20, 40, 0), (1, 54, 31, 78), (0, 21, 6, 0), (1, 54, 33, 79), (0, 21, 3000, 0), (1, 54, 34, 80), (2, 54, 36, -1), (0, 20, 20, 0), (1, 54, 38, 81), (0, 20, 20, 0), (1, 54, 39, 82), (0, 20, 20, 0), (1, 54, 40, 83), (0, 20, 20, 0), (1, 54, 41, 84), (0, 20, 6000, 0), (1, 54, 42, 85), (0, 20, 6000, 0), (1, 54, 43, 86), (0, 20, 6000, 0), (1, 54, 44, 87), (0, 21, 12, 0), (1, 54, 46, 88), (0, 21, 2200, 0), (1, 54, 47, 89), (0, 20, 2200, 0), (1, 54, 48, 90), (0, 21, 8800, 0), (1, 54, 49, 91), (2, 54, 51, -1), (0, 20, 40, 0), (1, 54, 53, 92), (0, 20, 40, 0), (1, 54, 54, 93), (0, 21, 40, 0), (1, 54, 55, 94), (0, 20, 9, 0), (1, 54, 59, 95), (0, 20, 3, 0), (1, 54, 60, 96), (0, 20, 200, 0), (1, 54, 61, 97), (0, 20, 400, 0), (1, 54, 66, 98)]
set_option maxRecDepth 100000 in
theorem B_run (z : h0T) : B203 z = runO opL (5, z) := rfl
theorem opL_h : hO opL 5 = 99 := by decide +kernel
theorem opL_k : ∀ q ∈ ssK, 5 ≤ q.1 → kO opL 5 q.1 = some q.2 := by decide +kernel
theorem opL_k0 : ∀ q ∈ ssK, q.1 < 5 → kO opL 5 q.1 = none ∧ q.2 = 19 := by decide +kernel
theorem opL_l : ∀ q ∈ ssL, 5 ≤ q.1 → lO opL 5 q.1 = some q.2 := by decide +kernel
theorem opL_l0 : ∀ q ∈ ssL, q.1 < 5 → lO opL 5 q.1 = none ∧ (q = (2, 32) ∨ q = (3, 96) ∨ q = (4, 13)) := by decide +kernel
theorem opL_r : ∀ q ∈ ssR, vO 1 opL 5 q.1 q.2.1 = some (q.2.2 : Int) := by decide +kernel
theorem ssK_pos : ∀ q ∈ ssK, 0 < q.1 := by decide +kernel
theorem opL_1 : ∀ o ∈ opL, o.1 = 0 ∨ o.2.1 ≠ 1 := by decide +kernel
theorem vO_none {c : Nat} : ∀ (L : List OP) (n a j : Nat), a < n → (∀ o ∈ L, o.1 = 0 ∨ o.2.1 ≠ a) → vO c L n a j = none
  | [], _, _, _, _, _ => rfl
  | o :: r, n, a, j, h1, h2 => by
    have h3 := h2 o List.mem_cons_self
    have h4 : ∀ q ∈ r, q.1 = 0 ∨ q.2.1 ≠ a := fun q hq => h2 q (List.mem_cons_of_mem _ hq)
    show (if o.1 = 0 then (vO c r (n + 1) a j).or (if a = n then some 0 else none) else (vO c r n a j).or (if o.1 = c ∧ a = o.2.1 ∧ j = o.2.2.1 then some o.2.2.2 else none)) = none
    split
    · rw [vO_none r (n + 1) a j (by omega) h4, if_neg (by omega)]; rfl
    · rename_i e
      rw [vO_none r n a j h1 h4, if_neg (fun q => by rcases h3 with e2 | e2; exact e e2; exact e2 q.2.1.symm)]; rfl
theorem B_SS (z : h0T) (hk : ∀ a, 0 < a → a < 5 → kd (5, z) a = 19) (h2 : ln (5, z) 2 = 32) (h3 : ln (5, z) 3 = 96) (h4 : ln (5, z) 4 = 13) : SS (B203 z) := by
  rw [B_run]
  refine ⟨by rw [hn_run]; exact Nat.le_of_eq opL_h.symm, fun q hq => ?_, fun q hq => ?_, fun q hq => ?_⟩
  · rw [kd_run]
    by_cases e : 5 ≤ q.1
    · rw [show kO opL (hn ((5, z) : MH)) q.1 = some q.2 from opL_k q hq e]; rfl
    · have := opL_k0 q hq (by omega)
      rw [show kO opL (hn ((5, z) : MH)) q.1 = none from this.1, this.2]
      exact hk _ (ssK_pos q hq) (by omega)
  · rw [ln_run]
    by_cases e : 5 ≤ q.1
    · rw [show lO opL (hn ((5, z) : MH)) q.1 = some q.2 from opL_l q hq e]; rfl
    · have := opL_l0 q hq (by omega)
      rw [show lO opL (hn ((5, z) : MH)) q.1 = none from this.1]
      rcases this.2 with e | e | e <;> rw [e]
      · exact h2
      · exact h3
      · exact h4
  · rw [mr_run, show vO 1 opL (hn ((5, z) : MH)) q.1 q.2.1 = some (q.2.2 : Int) from opL_r q hq]
    rfl
theorem B_i (z : h0T) {a j : Nat} {v : Int} (h : vO 2 opL 5 a j = some v) : mi (B203 z) a j = zI v := by
  rw [B_run, mi_run, show vO 2 opL (hn ((5, z) : MH)) a j = some v from h]
  rfl
theorem B_1 (z : h0T) : ln (B203 z) 1 = ln (5, z) 1 ∧ ∀ j, mi (B203 z) 1 j = mi (5, z) 1 j := by
  rw [B_run]
  refine ⟨?_, fun j => ?_⟩
  · rw [ln_run, show lO opL (hn ((5, z) : MH)) 1 = none from (by decide +kernel : lO opL 5 1 = none)]; rfl
  · rw [mi_run, show vO 2 opL (hn ((5, z) : MH)) 1 j = none from vO_none opL 5 1 j (by decide) opL_1]; rfl
