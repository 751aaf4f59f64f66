def gL_law_L1056 (x2 : Nat) (x3 : Nat) (x7 : Nat) : Mm → Option (Int32 × Mm × Nat × Nat) :=
  wq (gL_isLike x2 x3) fun v1 =>
  if (v1 : Int32) = 0 then
    wgrd ((0 : Int32) == 0 || (0 : Int32) == 1) (wr 0)
  else
    wq (gL_isSent x2 x3) fun v2 =>
    if (v2 : Int32) = 0 then
      wgrd ((0 : Int32) == 0 || (0 : Int32) == 1) (wr 0)
    else
      wq (wcc 0 0 (fX7_undo x2)) fun v3 =>
      if (v3 : Int32) = 0 then
        wq (gL_isLike x2 x7) fun v4 =>
        if (v4 : Int32) = 0 then
          wgrd ((0 : Int32) == 0 || (0 : Int32) == 1) (wr 0)
        else
          wq (gL_isSent x2 x7) fun v5 =>
          if (v5 : Int32) = 0 then
            wgrd ((0 : Int32) == 0 || (0 : Int32) == 1) (wr 0)
          else
            wgrd ((1 : Int32) == 0 || (1 : Int32) == 1) (wr 1)
      else
        wgrd ((0 : Int32) == 0 || (0 : Int32) == 1) (wr 0)
def gL_law_L998 (k959 : Nat → Nat → Nat → Int32 → Int32 → Nat → Int32 → Int32 → Mm → Option (Int32 × Mm × Nat × Nat)) (x2 : Nat) (x3 : Nat) (x7 : Nat) (x8 : Int32) (x10 : Int32) (x11 : Nat) (x13 : Int32) (s0 : Int32) (s1 : Int32) : Mm → Option (Int32 × Mm × Nat × Nat) :=
  wb (rtn (s1 + s0)) fun v6 =>
  k959 x2 x3 x7 x8 x10 x11 v6 (x13 + 1)
def gL_law_L959 : Nat → Nat → Nat → Nat → Int32 → Int32 → Nat → Int32 → Int32 → Mm → Option (Int32 × Mm × Nat × Nat)
  | 0, _, _, _, _, _, _, _, _ => wfail
  | n + 1, x2, x3, x7, x8, x10, x11, x12, x13 =>
    wb (gI x3 0) fun v7 =>
    if v7 ≤ (x13 : Int32) then
      wb (gA x3 3) fun v8 =>
      wb (gA x3 3) fun v9 =>
      wq (gJx4a65c_get_915e3 v9 x10) fun h10 =>
      wb (ckK 13 h10) fun _ =>
      wq (gJx4a65c_set_bcc79 v8 x8 h10) fun h11 =>
      wb (gA x3 3) fun v12 =>
      wq (gJx4a65c_set_bcc79 v12 x10 x11) fun h13 =>
      wq (wcx 6 63 (fX7_swap x2 x8 x10)) fun v14 =>
      if (v14 : Int32) = x12 then
        gL_law_L1056 x2 x3 x7
      else
        wgrd ((0 : Int32) == 0 || (0 : Int32) == 1) (wr 0)
    else
      wb (lI x11 x13) fun v15 =>
      wb (gA x3 3) fun v16 =>
      wq (gJx4a65c_get_915e3 v16 x10) fun h17 =>
      wb (ckK 13 h17) fun _ =>
      wb (lI h17 x13) fun v18 =>
      if (v15 : Int32) = v18 then
        gL_law_L998 (gL_law_L959 n) x2 x3 x7 x8 x10 x11 x13 0 x12
      else
        gL_law_L998 (gL_law_L959 n) x2 x3 x7 x8 x10 x11 x13 1 x12
def gL_law_L901 (k829 : Nat → Nat → Nat → Int32 → Int32 → Int32 → Mm → Option (Int32 × Mm × Nat × Nat)) (x2 : Nat) (x3 : Nat) (x7 : Nat) (x8 : Int32) (x11 : Int32) (s0 : Int32) (s1 : Int32) : Mm → Option (Int32 × Mm × Nat × Nat) :=
  wb (rtn (s1 + s0)) fun v19 =>
  k829 x2 x3 x7 x8 v19 (x11 + 1)
def gL_law_L875 (k829 : Nat → Nat → Nat → Int32 → Int32 → Int32 → Mm → Option (Int32 × Mm × Nat × Nat)) (x2 : Nat) (x3 : Nat) (x7 : Nat) (x8 : Int32) (x10 : Int32) (x11 : Int32) (s0 : Int32) (s1 : Int32) (s2 : Nat) : Mm → Option (Int32 × Mm × Nat × Nat) :=
  wb (aZ s2 s1 s0) fun _ =>
  wb (gA x3 3) fun v20 =>
  wq (gJx4a65c_get_915e3 v20 x8) fun h21 =>
  wb (ckK 13 h21) fun _ =>
  wb (lI h21 x11) fun v22 =>
  if (v22 : Int32) = 0 then
    gL_law_L901 k829 x2 x3 x7 x8 x11 0 x10
  else
    gL_law_L901 k829 x2 x3 x7 x8 x11 1 x10
def gL_law_L829 : Nat → Nat → Nat → Nat → Int32 → Int32 → Int32 → Mm → Option (Int32 × Mm × Nat × Nat)
  | 0, _, _, _, _, _, _ => wfail
  | n + 1, x2, x3, x7, x8, x10, x11 =>
    wb (gI x3 0) fun v23 =>
    if v23 ≤ (x11 : Int32) then
      wq (wcx 5 57 (fX7_invert x2 x8)) fun v24 =>
      if (v24 : Int32) = x10 then
        gL_law_L1056 x2 x3 x7
      else
        wgrd ((0 : Int32) == 0 || (0 : Int32) == 1) (wr 0)
    else
      wb (gA x3 3) fun v25 =>
      wq (gJx4a65c_get_915e3 v25 x8) fun h26 =>
      wb (ckK 13 h26) fun _ =>
      wb (gA x3 3) fun v27 =>
      wq (gJx4a65c_get_915e3 v27 x8) fun h28 =>
      wb (ckK 13 h28) fun _ =>
      wb (lI h28 x11) fun v29 =>
      if (v29 : Int32) = 0 then
        gL_law_L875 (gL_law_L829 n) x2 x3 x7 x8 x10 x11 1 x11 h26
      else
        gL_law_L875 (gL_law_L829 n) x2 x3 x7 x8 x10 x11 0 x11 h26
def gL_law_L692 (x2 : Nat) (x3 : Nat) (x7 : Nat) (x13 : Int32) (s0 : Int32) (s1 : Int32) (s2 : Int32) (s3 : Int32) (s4 : Nat) : Mm → Option (Int32 × Mm × Nat × Nat) :=
  wq (wcx 7 69 (fX7_paint s4 s3 s2 s1 s0)) fun v30 =>
  if (v30 : Int32) = x13 then
    gL_law_L1056 x2 x3 x7
  else
    wgrd ((0 : Int32) == 0 || (0 : Int32) == 1) (wr 0)
def gL_law_L649 (k615 : Nat → Nat → Nat → Int32 → Int32 → Int32 → Int32 → Int32 → Int32 → Mm → Option (Int32 × Mm × Nat × Nat)) (x2 : Nat) (x3 : Nat) (x7 : Nat) (x8 : Int32) (x10 : Int32) (x11 : Int32) (x12 : Int32) (x14 : Int32) (s0 : Int32) (s1 : Int32) : Mm → Option (Int32 × Mm × Nat × Nat) :=
  wb (rtn (s1 + s0)) fun v31 =>
  wb (gA x3 3) fun v32 =>
  wq (gJx4a65c_get_915e3 v32 x8) fun h33 =>
  wb (ckK 13 h33) fun _ =>
  wb (aZ h33 x14 x12) fun _ =>
  k615 x2 x3 x7 x8 x10 x11 x12 v31 (x14 + 1)
def gL_law_L615 : Nat → Nat → Nat → Nat → Int32 → Int32 → Int32 → Int32 → Int32 → Int32 → Mm → Option (Int32 × Mm × Nat × Nat)
  | 0, _, _, _, _, _, _, _, _, _ => wfail
  | n + 1, x2, x3, x7, x8, x10, x11, x12, x13, x14 =>
    if x11 ≤ (x14 : Int32) then
      if (x12 : Int32) = 0 then
        gL_law_L692 x2 x3 x7 x13 0 x11 x10 x8 x2
      else
        gL_law_L692 x2 x3 x7 x13 1 x11 x10 x8 x2
    else
      wb (gA x3 3) fun v34 =>
      wq (gJx4a65c_get_915e3 v34 x8) fun h35 =>
      wb (ckK 13 h35) fun _ =>
      wb (lI h35 x14) fun v36 =>
      if (v36 : Int32) = x12 then
        gL_law_L649 (gL_law_L615 n) x2 x3 x7 x8 x10 x11 x12 x14 0 x13
      else
        gL_law_L649 (gL_law_L615 n) x2 x3 x7 x8 x10 x11 x12 x14 1 x13
def gL_law_L606 (x2 : Nat) (x3 : Nat) (x7 : Nat) (x8 : Int32) (x10 : Int32) (x11 : Int32) (s0 : Int32) : Mm → Option (Int32 × Mm × Nat × Nat) :=
  gL_law_L615 fu x2 x3 x7 x8 x10 x11 s0 0 x10
def gL_law_L517 (k442 : Nat → Nat → Nat → Int32 → Int32 → Nat → Int32 → Int32 → Mm → Option (Int32 × Mm × Nat × Nat)) (x2 : Nat) (x3 : Nat) (x7 : Nat) (x8 : Int32) (x10 : Int32) (x11 : Nat) (x13 : Int32) (s0 : Int32) (s1 : Int32) : Mm → Option (Int32 × Mm × Nat × Nat) :=
  wb (rtn (s1 + s0)) fun v37 =>
  k442 x2 x3 x7 x8 x10 x11 v37 (x13 + 1)
def gL_law_L501 (k442 : Nat → Nat → Nat → Int32 → Int32 → Nat → Int32 → Int32 → Mm → Option (Int32 × Mm × Nat × Nat)) (x2 : Nat) (x3 : Nat) (x7 : Nat) (x8 : Int32) (x10 : Int32) (x11 : Nat) (x12 : Int32) (x13 : Int32) (s0 : Int32) (s1 : Int32) (s2 : Nat) : Mm → Option (Int32 × Mm × Nat × Nat) :=
  wb (aZ s2 s1 s0) fun _ =>
  wb (lI x11 x13) fun v38 =>
  if (v38 : Int32) = 0 then
    gL_law_L517 k442 x2 x3 x7 x8 x10 x11 x13 0 x12
  else
    gL_law_L517 k442 x2 x3 x7 x8 x10 x11 x13 1 x12
def gL_law_L500 (k442 : Nat → Nat → Nat → Int32 → Int32 → Nat → Int32 → Int32 → Mm → Option (Int32 × Mm × Nat × Nat)) (x2 : Nat) (x3 : Nat) (x7 : Nat) (x8 : Int32) (x10 : Int32) (x11 : Nat) (x12 : Int32) (x13 : Int32) (s0 : Int32) (s1 : Nat) : Mm → Option (Int32 × Mm × Nat × Nat) :=
  gL_law_L501 k442 x2 x3 x7 x8 x10 x11 x12 x13 0 s0 s1
def gL_law_L442 : Nat → Nat → Nat → Nat → Int32 → Int32 → Nat → Int32 → Int32 → Mm → Option (Int32 × Mm × Nat × Nat)
  | 0, _, _, _, _, _, _, _, _ => wfail
  | n + 1, x2, x3, x7, x8, x10, x11, x12, x13 =>
    wb (gI x3 0) fun v39 =>
    if v39 ≤ (x13 : Int32) then
      wq (wcx 5 57 (fX7_shift x2 x8 x10)) fun v40 =>
      if (v40 : Int32) = x12 then
        wb (gA x3 3) fun v41 =>
        wq (gJx4a65c_set_bcc79 v41 x8 x11) fun h42 =>
        gL_law_L1056 x2 x3 x7
      else
        wgrd ((0 : Int32) == 0 || (0 : Int32) == 1) (wr 0)
    else
      if ((x13 - x10) : Int32) < 0 then
        gL_law_L500 (gL_law_L442 n) x2 x3 x7 x8 x10 x11 x12 x13 x13 x11
      else
        wb (gI x3 0) fun v43 =>
        if v43 ≤ ((x13 - x10) : Int32) then
          gL_law_L500 (gL_law_L442 n) x2 x3 x7 x8 x10 x11 x12 x13 x13 x11
        else
          wb (gA x3 3) fun v44 =>
          wq (gJx4a65c_get_915e3 v44 x8) fun h45 =>
          wb (ckK 13 h45) fun _ =>
          wb (lI h45 (x13 - x10)) fun v46 =>
          if (v46 : Int32) = 0 then
            gL_law_L500 (gL_law_L442 n) x2 x3 x7 x8 x10 x11 x12 x13 x13 x11
          else
            gL_law_L501 (gL_law_L442 n) x2 x3 x7 x8 x10 x11 x12 x13 1 x13 x11
def gL_law_L258 : Nat → Nat → Nat → Nat → Nat → Int32 → Mm → Option (Int32 × Mm × Nat × Nat)
  | 0, _, _, _, _, _ => wfail
  | n + 1, x1, x2, x3, x4, x7 =>
    wb (gA x3 3) fun v47 =>
    wq (gJx4a65c_size_8abf5 v47) fun v48 =>
    if v48 ≤ (x7 : Int32) then
      wq (gJ4_toString_0e30d x4) fun h49 =>
      wq (gL_feed x2 h49) fun _ =>
      wq (wcc 0 0 (fX7_load x2)) fun v50 =>
      wb (gA x3 3) fun v51 =>
      wq (gJx4a65c_size_8abf5 v51) fun v52 =>
      if (v50 : Int32) = v52 then
        wq (wcc 0 0 (fX7_errorCode x2)) fun v53 =>
        if (v53 : Int32) = 0 then
          wq (gL_isLike x2 x3) fun v54 =>
          if (v54 : Int32) = 0 then
            wgrd ((0 : Int32) == 0 || (0 : Int32) == 1) (wr 0)
          else
            wq (gL_isSent x2 x3) fun v55 =>
            if (v55 : Int32) = 0 then
              wgrd ((0 : Int32) == 0 || (0 : Int32) == 1) (wr 0)
            else
              wq (gL_isTold x2 x3 x1) fun v56 =>
              if (v56 : Int32) = 0 then
                wgrd ((0 : Int32) == 0 || (0 : Int32) == 1) (wr 0)
              else
                wq (gX9_copy x3) fun h57 =>
                wb (gA x3 3) fun v58 =>
                wq (gJx4a65c_size_8abf5 v58) fun v59 =>
                wq (gX10_next x1 v59) fun v60 =>
                wq (gX10_next x1 6) fun v61 =>
                if (v61 : Int32) = 0 then
                  wq (gX10_next x1 9) fun v88 =>
                  wb (rtn (v88 - 4)) fun v89 =>
                  wb (gI x3 0) fun v90 =>
                  wq (nA 13 v90) fun h91 =>
                  gL_law_L442 fu x2 x3 h57 v60 v89 h91 0 0
                else
                  if (v61 : Int32) = 1 then
                    wb (gI x3 0) fun v82 =>
                    wq (gX10_next x1 (v82 + 1)) fun v83 =>
                    wb (gI x3 0) fun v84 =>
                    wq (gX10_next x1 ((v84 + 1) - v83)) fun v85 =>
                    wb (rtn (v83 + v85)) fun v86 =>
                    wq (gX10_next x1 2) fun v87 =>
                    if (v87 : Int32) = 1 then
                      gL_law_L606 x2 x3 h57 v60 v83 v86 1
                    else
                      gL_law_L606 x2 x3 h57 v60 v83 v86 0
                  else
                    if (v61 : Int32) = 2 then
                      wb (gA x3 3) fun v72 =>
                      wq (gJx4a65c_size_8abf5 v72) fun v73 =>
                      wq (gX10_next x1 (v73 + 1)) fun v74 =>
                      wb (gA x3 3) fun v75 =>
                      wb (gA x3 3) fun v76 =>
                      wq (gJx4a65c_get_915e3 v76 v60) fun h77 =>
                      wb (ckK 13 h77) fun _ =>
                      wq (nC 13 h77) fun h78 =>
                      wq (gJx4a65c_add_7a177 v75 v74 h78) fun _ =>
                      wq (wcx 6 63 (fX7_copyLine x2 v60 v74)) fun v79 =>
                      wb (gA x3 3) fun v80 =>
                      wq (gJx4a65c_size_8abf5 v80) fun v81 =>
                      if (v79 : Int32) = v81 then
                        gL_law_L1056 x2 x3 h57
                      else
                        wgrd ((0 : Int32) == 0 || (0 : Int32) == 1) (wr 0)
                    else
                      if (v61 : Int32) = 3 then
                        wb (gA x3 3) fun v67 =>
                        wq (gJx4a65c_remove_915e3 v67 v60) fun h68 =>
                        wb (ckK 13 h68) fun _ =>
                        wq (wcx 5 57 (fX7_removeLine x2 v60)) fun v69 =>
                        wb (gA x3 3) fun v70 =>
                        wq (gJx4a65c_size_8abf5 v70) fun v71 =>
                        if (v69 : Int32) = v71 then
                          gL_law_L1056 x2 x3 h57
                        else
                          wgrd ((0 : Int32) == 0 || (0 : Int32) == 1) (wr 0)
                      else
                        if (v61 : Int32) = 4 then
                          gL_law_L829 fu x2 x3 h57 v60 0 0
                        else
                          wb (gA x3 3) fun v62 =>
                          wq (gJx4a65c_size_8abf5 v62) fun v63 =>
                          wq (gX10_next x1 v63) fun v64 =>
                          wb (gA x3 3) fun v65 =>
                          wq (gJx4a65c_get_915e3 v65 v60) fun h66 =>
                          wb (ckK 13 h66) fun _ =>
                          gL_law_L959 fu x2 x3 h57 v60 v64 h66 0 0
        else
          wgrd ((0 : Int32) == 0 || (0 : Int32) == 1) (wr 0)
      else
        wgrd ((0 : Int32) == 0 || (0 : Int32) == 1) (wr 0)
    else
      wb (gA x3 2) fun v92 =>
      wq (gX10_next x1 6) fun v93 =>
      wb (aI v92 x7 (mmax 0 (v93 - 2))) fun _ =>
      wq (gJ4_append_15ec4_k x4 (SB + 13)) fun h94 =>
      wq (gJ4_append_bf812 h94 x7) fun h95 =>
      wq (gJ4_append_cf468 h95 32) fun h96 =>
      wb (gA x3 2) fun v97 =>
      wb (lI v97 x7) fun v98 =>
      wq (gJ4_append_bf812 h96 v98) fun h99 =>
      wq (gJ4_append_cf468 h99 59) fun h100 =>
      gL_law_L258 n x1 x2 x3 x4 (x7 + 1)
def gL_law_L213 (k181 : Nat → Nat → Nat → Nat → Nat → Int32 → Mm → Option (Int32 × Mm × Nat × Nat)) (x1 : Nat) (x2 : Nat) (x3 : Nat) (x4 : Nat) (x6 : Nat) (x7 : Int32) (s0 : Int32) (s1 : Int32) (s2 : Int32) (s3 : Nat) : Mm → Option (Int32 × Mm × Nat × Nat) :=
  wb (aI s3 s2 (s1 + s0)) fun _ =>
  wq (gJ4_append_15ec4_k x4 (SB + 12)) fun h101 =>
  wq (gJ4_append_bf812 h101 x7) fun h102 =>
  wq (gJ4_append_cf468 h102 32) fun h103 =>
  wb (gA x3 1) fun v104 =>
  wb (lI v104 x7) fun v105 =>
  wq (gJ4_append_bf812 h103 v105) fun h106 =>
  wq (gJ4_append_cf468 h106 59) fun h107 =>
  k181 x1 x2 x3 x4 x6 (x7 + 1)
def gL_law_L181 : Nat → Nat → Nat → Nat → Nat → Nat → Int32 → Mm → Option (Int32 × Mm × Nat × Nat)
  | 0, _, _, _, _, _, _ => wfail
  | n + 1, x1, x2, x3, x4, x6, x7 =>
    if 6 ≤ (x7 : Int32) then
      gL_law_L258 fu x1 x2 x3 x4 0
    else
      wb (gA x3 1) fun v108 =>
      wb (lI x6 x7) fun v109 =>
      wq (gX10_next x1 v109) fun v110 =>
      if (x7 : Int32) = 0 then
        gL_law_L213 (gL_law_L181 n) x1 x2 x3 x4 x6 x7 1 v110 x7 v108
      else
        gL_law_L213 (gL_law_L181 n) x1 x2 x3 x4 x6 x7 0 v110 x7 v108
def gL_law_L94 : Nat → Nat → Nat → Nat → Nat → Nat → Int32 → Mm → Option (Int32 × Mm × Nat × Nat)
  | 0, _, _, _, _, _, _ => wfail
  | n + 1, x1, x2, x3, x4, x5, x6 =>
    if (x6 : Int32) ≤ 0 then
      wq (nA 11 6) fun h111 =>
      wb (aI h111 0 8) fun _ =>
      wb (aI h111 1 2) fun _ =>
      wb (aI h111 2 2) fun _ =>
      wb (aI h111 3 5) fun _ =>
      wb (aI h111 4 100) fun _ =>
      wb (aI h111 5 100) fun _ =>
      gL_law_L181 fu x1 x2 x3 x4 h111 0
    else
      wq (gL_drawnRow x1 x5) fun h112 =>
      wb (gA x3 3) fun v113 =>
      wq (gJx4a65c_add_9ea2d v113 h112) fun v114 =>
      wq (gJ4_append_15ec4_k x4 (SB + 11)) fun h115 =>
      wq (gL_told h112) fun h116 =>
      wq (gJ4_append_15ec4 h115 h116) fun h117 =>
      wq (gJ4_append_cf468 h117 59) fun h118 =>
      gL_law_L94 n x1 x2 x3 x4 h112 (x6 + (-1))
def gL_law_L17 (x1 : Nat) (x2 : Nat) : Mm → Option (Int32 × Mm × Nat × Nat) :=
  wq (nO 54) fun h119 =>
  wq (gX9_init h119) fun _ =>
  wq (gX10_next x1 20) fun v120 =>
  wb (pI h119 0 (8 + v120)) fun _ =>
  wq (nO 41) fun h121 =>
  wq (nO 41) fun h122 =>
  wq (gJ4_init_da8c8 h122) fun _ =>
  wq (gJ4_append_15ec4_k h122 (SB + 9)) fun h123 =>
  wb (gI h119 0) fun v124 =>
  wq (gJ4_append_bf812 h123 v124) fun h125 =>
  wq (gJ4_append_15ec4_k h125 (SB + 10)) fun h126 =>
  wq (gJ4_toString_0e30d h126) fun h127 =>
  wq (gJ4_init_a7421 h121 h127) fun _ =>
  wb (gI h119 0) fun v128 =>
  wq (nA 13 v128) fun h129 =>
  wq (gX10_next x1 6) fun v130 =>
  wb (rtn (1 + v130)) fun v131 =>
  gL_law_L94 fu x1 x2 h119 h121 h129 v131
def gL_law (x0 : Nat) : Mm → Option (Int32 × Mm × Nat × Nat) :=
  wq (nO 55) fun h132 =>
  wq (gX10_init h132 x0) fun _ =>
  wq (nO 7) fun h133 =>
  wq (wcc 37 1869 (fX7_init h133)) fun _ =>
  wgrd ((h132 == 0) && (h133 == 1)) <| prm (gL_law_L17 38 0)
