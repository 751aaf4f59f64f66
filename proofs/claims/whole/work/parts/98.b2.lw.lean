/-! THE LAW: its cases -/
set_option maxRecDepth 100000 in
set_option maxHeartbeats 8000000 in
theorem jL_c26 {κ : Cx} {fin : Int32 → Mm → Prop} {L : Nat} {xs : Nat → Int32} (hc : Jc κ RL cL_law 9 12 601024 7293034 452) (he : EdZ κ cL_law 601024 7293034 id fin) (hsx : JX κ L xs) (hN : NcK κ) {cs ss : Nat} (h1 : cs + 8 ≤ 601024) (h2 : ss + 80 ≤ 7293034) {k : Mm → Option (Int32 × Mm)} (x1 x2 x3 : Nat) (x4 : Int32) (hk : Jg κ (wM κ) 9 fin (cs + 8) (ss + 80) 2172 [some ((23, .ref (SB + 400)) : TV), some ((7, .ref x1) : TV), some ((8, .ref x2) : TV), some ((12, .ref x3) : TV), some ((0, .int x4) : TV), none, none, none, none] [] k) : Jg κ (wM κ) 9 fin cs ss 1759 [some ((23, .ref (SB + 400)) : TV), some ((7, .ref x1) : TV), some ((8, .ref x2) : TV), some ((12, .ref x3) : TV), some ((0, .int x4) : TV), none, none, none, none] [] (fL_c26 L xs k x1 x2 x3 x4) := by
  unfold fL_c26
  refine J_aload_n (pc := 1759) hc dL_law_1759 rfl rfl ?_
  refine J_aload_n (pc := 1760) hc dL_law_1760 rfl rfl ?_
  refine J_iload (pc := 1761) hc dL_law_1761 rfl ?_
  refine J_iconst (pc := 1763) (v := 1) hc dL_law_1763 (by decide) ?_
  refine J_iadd (pc := 1764) hc dL_law_1764 ?_
  refine J_sald (pc := 1765) hc hsx dL_law_1765 ?_
  refine J_aload_n (pc := 1766) hc dL_law_1766 rfl rfl ?_
  refine J_iload (pc := 1767) hc dL_law_1767 rfl ?_
  refine J_iconst (pc := 1769) (v := 2) hc dL_law_1769 (by decide) ?_
  refine J_iadd (pc := 1770) hc dL_law_1770 ?_
  refine J_sald (pc := 1771) hc hsx dL_law_1771 ?_
  refine J_aload_n (pc := 1772) hc dL_law_1772 rfl rfl ?_
  refine J_callSW (pc := 1773) hc hN (As := [((7, .ref x1) : TV), ((0, .int (xs ((x4 + 1)).toNatClampNeg)) : TV), ((0, .int (xs ((x4 + 2)).toNatClampNeg)) : TV), ((12, .ref x3) : TV)]) (KL_harm x1 (xs ((x4 + 1)).toNatClampNeg) (xs ((x4 + 2)).toNatClampNeg) x3) dL_law_1773 moL_harm tw1072 tw1073 tw0 tw1074 rfl (Nat.le_of_ble_eq_true rfl) (Nat.le_of_ble_eq_true rfl) (by omega) (by omega) (Nat.le_of_ble_eq_true rfl) rfl (fun v1 => ?_)
  refine J_istore (pc := 1776) (l' := [some ((23, .ref (SB + 400)) : TV), some ((7, .ref x1) : TV), some ((8, .ref x2) : TV), some ((12, .ref x3) : TV), some ((0, .int x4) : TV), some ((0, .int v1) : TV), none, none, none]) hc dL_law_1776 (by decide) rfl rfl ?_
  refine J_aload_n (pc := 1778) hc dL_law_1778 rfl rfl ?_
  refine J_aload_n (pc := 1779) hc dL_law_1779 rfl rfl ?_
  refine J_iload (pc := 1780) hc dL_law_1780 rfl ?_
  refine J_iconst (pc := 1782) (v := 1) hc dL_law_1782 (by decide) ?_
  refine J_iadd (pc := 1783) hc dL_law_1783 ?_
  refine J_sald (pc := 1784) hc hsx dL_law_1784 ?_
  refine J_aload_n (pc := 1785) hc dL_law_1785 rfl rfl ?_
  refine J_iload (pc := 1786) hc dL_law_1786 rfl ?_
  refine J_iconst (pc := 1788) (v := 2) hc dL_law_1788 (by decide) ?_
  refine J_iadd (pc := 1789) hc dL_law_1789 ?_
  refine J_sald (pc := 1790) hc hsx dL_law_1790 ?_
  refine J_callVi (pc := 1791) hc clX8 (As := [((0, .int (xs ((x4 + 1)).toNatClampNeg)) : TV), ((0, .int (xs ((x4 + 2)).toNatClampNeg)) : TV)]) (KX8_harm x2 (xs ((x4 + 1)).toNatClampNeg) (xs ((x4 + 2)).toNatClampNeg)) dL_law_1791 moX8_harm rfl tw1568 tw1569 tw1570 tw9 tw1571 rfl (Nat.le_of_ble_eq_true rfl) (Nat.le_of_ble_eq_true rfl) (by omega) (by omega) (Nat.le_of_ble_eq_true rfl) rfl (fun v2 => ?_)
  refine J_istore (pc := 1794) (l' := [some ((23, .ref (SB + 400)) : TV), some ((7, .ref x1) : TV), some ((8, .ref x2) : TV), some ((12, .ref x3) : TV), some ((0, .int x4) : TV), some ((0, .int v1) : TV), some ((0, .int v2) : TV), none, none]) hc dL_law_1794 (by decide) rfl rfl ?_
  refine J_aload_n (pc := 1796) hc dL_law_1796 rfl rfl ?_
  refine J_callVi (pc := 1797) hc clX8 (As := []) (KX8_thrown x2) dL_law_1797 moX8_thrown rfl tw1290 tw1291 tw1292 tw9 tw1293 rfl (Nat.le_of_ble_eq_true rfl) (Nat.le_of_ble_eq_true rfl) (by omega) (by omega) (Nat.le_of_ble_eq_true rfl) rfl (fun v3 => ?_)
  refine J_iload (pc := 1800) hc dL_law_1800 rfl ?_
  refine J_icmp_eq (pc := 1802) (tgt := 1807) hc dL_law_1802 (by decide) ?_ ?_
  · refine J_iload (pc := 1807) hc dL_law_1807 rfl ?_
    refine J_if_ne (pc := 1809) (tgt := 1824) hc dL_law_1809 (by decide) ?_ ?_
    · refine J_goto (pc := 1824) (tgt := 2172) hc dL_law_1824 (by decide) ?_
      refine J_widen (k := cs + 8) (n := ss + 80) (by omega) (by omega) ?_
      refine J_sub (l' := [some ((23, .ref (SB + 400)) : TV), some ((7, .ref x1) : TV), some ((8, .ref x2) : TV), some ((12, .ref x3) : TV), some ((0, .int x4) : TV), none, none, none, none]) ⟨rfl, ⟨rfl, ⟨rfl, ⟨rfl, ⟨rfl, trivial⟩⟩⟩⟩⟩ ?_
      exact hk
    · refine J_aload_n (pc := 1812) hc dL_law_1812 rfl rfl ?_
      refine J_iconst (pc := 1813) (v := 0) hc dL_law_1813 (by decide) ?_
      refine J_lald (pc := 1814) hc dL_law_1814 (fun v4 => ?_)
      refine J_iload (pc := 1815) hc dL_law_1815 rfl ?_
      refine J_i2l (pc := 1817) hc dL_law_1817 ?_
      refine J_lcmp (pc := 1818) hc dL_law_1818 ?_
      refine J_if_eq (pc := 1819) (tgt := 1824) hc dL_law_1819 (by decide) ?_ ?_
      · refine J_goto (pc := 1824) (tgt := 2172) hc dL_law_1824 (by decide) ?_
        refine J_widen (k := cs + 8) (n := ss + 80) (by omega) (by omega) ?_
        refine J_sub (l' := [some ((23, .ref (SB + 400)) : TV), some ((7, .ref x1) : TV), some ((8, .ref x2) : TV), some ((12, .ref x3) : TV), some ((0, .int x4) : TV), none, none, none, none]) ⟨rfl, ⟨rfl, ⟨rfl, ⟨rfl, ⟨rfl, trivial⟩⟩⟩⟩⟩ ?_
        exact hk
      · refine J_iconst (pc := 1822) (v := 0) hc dL_law_1822 (by decide) ?_
        refine J_widen (k := 601024) (n := 7293034) (by omega) (by omega) ?_
        exact J_zret (pc := 1823) he dL_law_1823
  · refine J_iconst (pc := 1805) (v := 0) hc dL_law_1805 (by decide) ?_
    refine J_widen (k := 601024) (n := 7293034) (by omega) (by omega) ?_
    exact J_zret (pc := 1806) he dL_law_1806
set_option maxRecDepth 100000 in
set_option maxHeartbeats 8000000 in
theorem jL_c27 {κ : Cx} {fin : Int32 → Mm → Prop} {L : Nat} {xs : Nat → Int32} (hc : Jc κ RL cL_law 9 12 601024 7293034 452) (he : EdZ κ cL_law 601024 7293034 id fin) (hsx : JX κ L xs) (hN : NcK κ) {cs ss : Nat} (h1 : cs + 8 ≤ 601024) (h2 : ss + 80 ≤ 7293034) {k : Mm → Option (Int32 × Mm)} (x1 x2 x3 : Nat) (x4 : Int32) (hk : Jg κ (wM κ) 9 fin (cs + 8) (ss + 80) 2172 [some ((23, .ref (SB + 400)) : TV), some ((7, .ref x1) : TV), some ((8, .ref x2) : TV), some ((12, .ref x3) : TV), some ((0, .int x4) : TV), none, none, none, none] [] k) : Jg κ (wM κ) 9 fin cs ss 1827 [some ((23, .ref (SB + 400)) : TV), some ((7, .ref x1) : TV), some ((8, .ref x2) : TV), some ((12, .ref x3) : TV), some ((0, .int x4) : TV), none, none, none, none] [] (fL_c27 L xs k x1 x2 x3 x4) := by
  unfold fL_c27
  refine J_aload_n (pc := 1827) hc dL_law_1827 rfl rfl ?_
  refine J_callVi (pc := 1828) hc clX7 (As := []) (KX7_worst x1) dL_law_1828 moX7_worst rfl tw559 tw560 tw561 tw1 tw562 rfl (Nat.le_of_ble_eq_true rfl) (Nat.le_of_ble_eq_true rfl) (by omega) (by omega) (Nat.le_of_ble_eq_true rfl) rfl (fun v1 => ?_)
  refine J_aload_n (pc := 1831) hc dL_law_1831 rfl rfl ?_
  refine J_callVi (pc := 1832) hc clX8 (As := []) (KX8_worst x2) dL_law_1832 moX8_worst rfl tw1580 tw1581 tw1582 tw9 tw1583 rfl (Nat.le_of_ble_eq_true rfl) (Nat.le_of_ble_eq_true rfl) (by omega) (by omega) (Nat.le_of_ble_eq_true rfl) rfl (fun v2 => ?_)
  refine J_icmp_eq (pc := 1835) (tgt := 2172) hc dL_law_1835 (by decide) ?_ ?_
  · refine J_widen (k := cs + 8) (n := ss + 80) (by omega) (by omega) ?_
    refine J_sub (l' := [some ((23, .ref (SB + 400)) : TV), some ((7, .ref x1) : TV), some ((8, .ref x2) : TV), some ((12, .ref x3) : TV), some ((0, .int x4) : TV), none, none, none, none]) ⟨rfl, ⟨rfl, ⟨rfl, ⟨rfl, ⟨rfl, trivial⟩⟩⟩⟩⟩ ?_
    exact hk
  · refine J_iconst (pc := 1838) (v := 0) hc dL_law_1838 (by decide) ?_
    refine J_widen (k := 601024) (n := 7293034) (by omega) (by omega) ?_
    exact J_zret (pc := 1839) he dL_law_1839
set_option maxRecDepth 100000 in
set_option maxHeartbeats 8000000 in
theorem jL_c28 {κ : Cx} {fin : Int32 → Mm → Prop} {L : Nat} {xs : Nat → Int32} (hc : Jc κ RL cL_law 9 12 601024 7293034 452) (he : EdZ κ cL_law 601024 7293034 id fin) (hsx : JX κ L xs) (hN : NcK κ) {cs ss : Nat} (h1 : cs + 8 ≤ 601024) (h2 : ss + 80 ≤ 7293034) {k : Mm → Option (Int32 × Mm)} (x1 x2 x3 : Nat) (x4 : Int32) (hk : Jg κ (wM κ) 9 fin (cs + 8) (ss + 80) 2172 [some ((23, .ref (SB + 400)) : TV), some ((7, .ref x1) : TV), some ((8, .ref x2) : TV), some ((12, .ref x3) : TV), some ((0, .int x4) : TV), none, none, none, none] [] k) : Jg κ (wM κ) 9 fin cs ss 1840 [some ((23, .ref (SB + 400)) : TV), some ((7, .ref x1) : TV), some ((8, .ref x2) : TV), some ((12, .ref x3) : TV), some ((0, .int x4) : TV), none, none, none, none] [] (fL_c28 L xs k x1 x2 x3 x4) := by
  unfold fL_c28
  refine J_aload_n (pc := 1840) hc dL_law_1840 rfl rfl ?_
  refine J_callVi (pc := 1841) hc clX7 (As := []) (KX7_bestEvery x1) dL_law_1841 moX7_bestEvery rfl tw656 tw657 tw658 tw1 tw659 rfl (Nat.le_of_ble_eq_true rfl) (Nat.le_of_ble_eq_true rfl) (by omega) (by omega) (Nat.le_of_ble_eq_true rfl) rfl (fun v1 => ?_)
  refine J_aload_n (pc := 1844) hc dL_law_1844 rfl rfl ?_
  refine J_callVi (pc := 1845) hc clX8 (As := []) (KX8_bestEvery x2) dL_law_1845 moX8_bestEvery rfl tw1584 tw1585 tw1586 tw9 tw1587 rfl (Nat.le_of_ble_eq_true rfl) (Nat.le_of_ble_eq_true rfl) (by omega) (by omega) (Nat.le_of_ble_eq_true rfl) rfl (fun v2 => ?_)
  refine J_icmp_eq (pc := 1848) (tgt := 2172) hc dL_law_1848 (by decide) ?_ ?_
  · refine J_widen (k := cs + 8) (n := ss + 80) (by omega) (by omega) ?_
    refine J_sub (l' := [some ((23, .ref (SB + 400)) : TV), some ((7, .ref x1) : TV), some ((8, .ref x2) : TV), some ((12, .ref x3) : TV), some ((0, .int x4) : TV), none, none, none, none]) ⟨rfl, ⟨rfl, ⟨rfl, ⟨rfl, ⟨rfl, trivial⟩⟩⟩⟩⟩ ?_
    exact hk
  · refine J_iconst (pc := 1851) (v := 0) hc dL_law_1851 (by decide) ?_
    refine J_widen (k := 601024) (n := 7293034) (by omega) (by omega) ?_
    exact J_zret (pc := 1852) he dL_law_1852
set_option maxRecDepth 100000 in
set_option maxHeartbeats 8000000 in
theorem jL_c29 {κ : Cx} {fin : Int32 → Mm → Prop} {L : Nat} {xs : Nat → Int32} (hc : Jc κ RL cL_law 9 12 601024 7293034 452) (he : EdZ κ cL_law 601024 7293034 id fin) (hsx : JX κ L xs) (hN : NcK κ) {cs ss : Nat} (h1 : cs + 8 ≤ 601024) (h2 : ss + 80 ≤ 7293034) {k : Mm → Option (Int32 × Mm)} (x1 x2 x3 : Nat) (x4 : Int32) (hk : Jg κ (wM κ) 9 fin (cs + 8) (ss + 80) 2172 [some ((23, .ref (SB + 400)) : TV), some ((7, .ref x1) : TV), some ((8, .ref x2) : TV), some ((12, .ref x3) : TV), some ((0, .int x4) : TV), none, none, none, none] [] k) : Jg κ (wM κ) 9 fin cs ss 1853 [some ((23, .ref (SB + 400)) : TV), some ((7, .ref x1) : TV), some ((8, .ref x2) : TV), some ((12, .ref x3) : TV), some ((0, .int x4) : TV), none, none, none, none] [] (fL_c29 L xs k x1 x2 x3 x4) := by
  unfold fL_c29
  refine J_aload_n (pc := 1853) hc dL_law_1853 rfl rfl ?_
  refine J_callVi (pc := 1854) hc clX7 (As := []) (KX7_needsSteps x1) dL_law_1854 moX7_needsSteps rfl tw662 tw663 tw664 tw1 tw665 rfl (Nat.le_of_ble_eq_true rfl) (Nat.le_of_ble_eq_true rfl) (by omega) (by omega) (Nat.le_of_ble_eq_true rfl) rfl (fun v1 => ?_)
  refine J_aload_n (pc := 1857) hc dL_law_1857 rfl rfl ?_
  refine J_callVi (pc := 1858) hc clX8 (As := []) (KX8_needsSteps x2) dL_law_1858 moX8_needsSteps rfl tw1588 tw1589 tw1590 tw9 tw1591 rfl (Nat.le_of_ble_eq_true rfl) (Nat.le_of_ble_eq_true rfl) (by omega) (by omega) (Nat.le_of_ble_eq_true rfl) rfl (fun v2 => ?_)
  refine J_icmp_eq (pc := 1861) (tgt := 2172) hc dL_law_1861 (by decide) ?_ ?_
  · refine J_widen (k := cs + 8) (n := ss + 80) (by omega) (by omega) ?_
    refine J_sub (l' := [some ((23, .ref (SB + 400)) : TV), some ((7, .ref x1) : TV), some ((8, .ref x2) : TV), some ((12, .ref x3) : TV), some ((0, .int x4) : TV), none, none, none, none]) ⟨rfl, ⟨rfl, ⟨rfl, ⟨rfl, ⟨rfl, trivial⟩⟩⟩⟩⟩ ?_
    exact hk
  · refine J_iconst (pc := 1864) (v := 0) hc dL_law_1864 (by decide) ?_
    refine J_widen (k := 601024) (n := 7293034) (by omega) (by omega) ?_
    exact J_zret (pc := 1865) he dL_law_1865
set_option maxRecDepth 100000 in
set_option maxHeartbeats 8000000 in
theorem jL_c30 {κ : Cx} {fin : Int32 → Mm → Prop} {L : Nat} {xs : Nat → Int32} (hc : Jc κ RL cL_law 9 12 601024 7293034 452) (he : EdZ κ cL_law 601024 7293034 id fin) (hsx : JX κ L xs) (hN : NcK κ) {cs ss : Nat} (h1 : cs + 8 ≤ 601024) (h2 : ss + 80 ≤ 7293034) {k : Mm → Option (Int32 × Mm)} (x1 x2 x3 : Nat) (x4 : Int32) (hk : Jg κ (wM κ) 9 fin (cs + 8) (ss + 80) 2172 [some ((23, .ref (SB + 400)) : TV), some ((7, .ref x1) : TV), some ((8, .ref x2) : TV), some ((12, .ref x3) : TV), some ((0, .int x4) : TV), none, none, none, none] [] k) : Jg κ (wM κ) 9 fin cs ss 1866 [some ((23, .ref (SB + 400)) : TV), some ((7, .ref x1) : TV), some ((8, .ref x2) : TV), some ((12, .ref x3) : TV), some ((0, .int x4) : TV), none, none, none, none] [] (fL_c30 L xs k x1 x2 x3 x4) := by
  unfold fL_c30
  refine J_aload_n (pc := 1866) hc dL_law_1866 rfl rfl ?_
  refine J_callVd (pc := 1867) hc clX7 (As := []) (KX7_perDot x1) dL_law_1867 moX7_perDot rfl tw666 tw667 tw668 tw1 tw669 rfl (Nat.le_of_ble_eq_true rfl) (Nat.le_of_ble_eq_true rfl) (by omega) (by omega) (Nat.le_of_ble_eq_true rfl) rfl (fun v1 => ?_)
  refine J_dstore (pc := 1870) (l' := [some ((23, .ref (SB + 400)) : TV), some ((7, .ref x1) : TV), some ((8, .ref x2) : TV), some ((12, .ref x3) : TV), some ((0, .int x4) : TV), some ((0, .double v1) : TV), none, none, none]) hc dL_law_1870 (by decide) rfl rfl ?_
  refine J_aload_n (pc := 1872) hc dL_law_1872 rfl rfl ?_
  refine J_callVd (pc := 1873) hc clX8 (As := []) (KX8_perDot x2) dL_law_1873 moX8_perDot rfl tw1592 tw1593 tw1594 tw9 tw1595 rfl (Nat.le_of_ble_eq_true rfl) (Nat.le_of_ble_eq_true rfl) (by omega) (by omega) (Nat.le_of_ble_eq_true rfl) rfl (fun v2 => ?_)
  refine J_dstore (pc := 1876) (l' := [some ((23, .ref (SB + 400)) : TV), some ((7, .ref x1) : TV), some ((8, .ref x2) : TV), some ((12, .ref x3) : TV), some ((0, .int x4) : TV), some ((0, .double v1) : TV), none, some ((0, .double v2) : TV), none]) hc dL_law_1876 (by decide) rfl rfl ?_
  refine J_dload (pc := 1878) hc dL_law_1878 rfl ?_
  refine J_dload (pc := 1880) hc dL_law_1880 rfl ?_
  refine J_dcmp (pc := 1882) hc dL_law_1882 ?_
  refine J_if_eq (pc := 1883) (tgt := 1904) hc dL_law_1883 (by decide) ?_ ?_
  · refine J_goto (pc := 1904) (tgt := 2172) hc dL_law_1904 (by decide) ?_
    refine J_widen (k := cs + 8) (n := ss + 80) (by omega) (by omega) ?_
    refine J_sub (l' := [some ((23, .ref (SB + 400)) : TV), some ((7, .ref x1) : TV), some ((8, .ref x2) : TV), some ((12, .ref x3) : TV), some ((0, .int x4) : TV), none, none, none, none]) ⟨rfl, ⟨rfl, ⟨rfl, ⟨rfl, ⟨rfl, trivial⟩⟩⟩⟩⟩ ?_
    exact hk
  · refine J_dload (pc := 1886) hc dL_law_1886 rfl ?_
    refine J_dload (pc := 1888) hc dL_law_1888 rfl ?_
    refine J_dcmp (pc := 1890) hc dL_law_1890 ?_
    refine J_if_eq (pc := 1891) (tgt := 1902) hc dL_law_1891 (by decide) ?_ ?_
    · refine J_iconst (pc := 1902) (v := 0) hc dL_law_1902 (by decide) ?_
      refine J_widen (k := 601024) (n := 7293034) (by omega) (by omega) ?_
      exact J_zret (pc := 1903) he dL_law_1903
    · refine J_dload (pc := 1894) hc dL_law_1894 rfl ?_
      refine J_dload (pc := 1896) hc dL_law_1896 rfl ?_
      refine J_dcmp (pc := 1898) hc dL_law_1898 ?_
      refine J_if_ne (pc := 1899) (tgt := 1904) hc dL_law_1899 (by decide) ?_ ?_
      · refine J_goto (pc := 1904) (tgt := 2172) hc dL_law_1904 (by decide) ?_
        refine J_widen (k := cs + 8) (n := ss + 80) (by omega) (by omega) ?_
        refine J_sub (l' := [some ((23, .ref (SB + 400)) : TV), some ((7, .ref x1) : TV), some ((8, .ref x2) : TV), some ((12, .ref x3) : TV), some ((0, .int x4) : TV), none, none, none, none]) ⟨rfl, ⟨rfl, ⟨rfl, ⟨rfl, ⟨rfl, trivial⟩⟩⟩⟩⟩ ?_
        exact hk
      · refine J_iconst (pc := 1902) (v := 0) hc dL_law_1902 (by decide) ?_
        refine J_widen (k := 601024) (n := 7293034) (by omega) (by omega) ?_
        exact J_zret (pc := 1903) he dL_law_1903
set_option maxRecDepth 100000 in
set_option maxHeartbeats 8000000 in
theorem jL_c31 {κ : Cx} {fin : Int32 → Mm → Prop} {L : Nat} {xs : Nat → Int32} (hc : Jc κ RL cL_law 9 12 601024 7293034 452) (he : EdZ κ cL_law 601024 7293034 id fin) (hsx : JX κ L xs) (hN : NcK κ) {cs ss : Nat} (h1 : cs + 8 ≤ 601024) (h2 : ss + 80 ≤ 7293034) {k : Mm → Option (Int32 × Mm)} (x1 x2 x3 : Nat) (x4 : Int32) (hk : Jg κ (wM κ) 9 fin (cs + 8) (ss + 80) 2172 [some ((23, .ref (SB + 400)) : TV), some ((7, .ref x1) : TV), some ((8, .ref x2) : TV), some ((12, .ref x3) : TV), some ((0, .int x4) : TV), none, none, none, none] [] k) : Jg κ (wM κ) 9 fin cs ss 1907 [some ((23, .ref (SB + 400)) : TV), some ((7, .ref x1) : TV), some ((8, .ref x2) : TV), some ((12, .ref x3) : TV), some ((0, .int x4) : TV), none, none, none, none] [] (fL_c31 L xs k x1 x2 x3 x4) := by
  unfold fL_c31
  refine J_aload_n (pc := 1907) hc dL_law_1907 rfl rfl ?_
  refine J_callVf (pc := 1908) hc clX7 (As := []) (KX7_byAbove x1) dL_law_1908 moX7_byAbove rfl tw670 tw671 tw672 tw1 tw673 rfl (Nat.le_of_ble_eq_true rfl) (Nat.le_of_ble_eq_true rfl) (by omega) (by omega) (Nat.le_of_ble_eq_true rfl) rfl (fun v1 => ?_)
  refine J_f2d (pc := 1911) hc dL_law_1911 ?_
  refine J_dstore (pc := 1912) (l' := [some ((23, .ref (SB + 400)) : TV), some ((7, .ref x1) : TV), some ((8, .ref x2) : TV), some ((12, .ref x3) : TV), some ((0, .int x4) : TV), some ((0, .double (FP.f2d v1)) : TV), none, none, none]) hc dL_law_1912 (by decide) rfl rfl ?_
  refine J_aload_n (pc := 1914) hc dL_law_1914 rfl rfl ?_
  refine J_callVf (pc := 1915) hc clX8 (As := []) (KX8_byAbove x2) dL_law_1915 moX8_byAbove rfl tw1596 tw1597 tw1598 tw9 tw1599 rfl (Nat.le_of_ble_eq_true rfl) (Nat.le_of_ble_eq_true rfl) (by omega) (by omega) (Nat.le_of_ble_eq_true rfl) rfl (fun v2 => ?_)
  refine J_f2d (pc := 1918) hc dL_law_1918 ?_
  refine J_dstore (pc := 1919) (l' := [some ((23, .ref (SB + 400)) : TV), some ((7, .ref x1) : TV), some ((8, .ref x2) : TV), some ((12, .ref x3) : TV), some ((0, .int x4) : TV), some ((0, .double (FP.f2d v1)) : TV), none, some ((0, .double (FP.f2d v2)) : TV), none]) hc dL_law_1919 (by decide) rfl rfl ?_
  refine J_dload (pc := 1921) hc dL_law_1921 rfl ?_
  refine J_dload (pc := 1923) hc dL_law_1923 rfl ?_
  refine J_dcmp (pc := 1925) hc dL_law_1925 ?_
  refine J_if_eq (pc := 1926) (tgt := 1947) hc dL_law_1926 (by decide) ?_ ?_
  · refine J_goto (pc := 1947) (tgt := 2172) hc dL_law_1947 (by decide) ?_
    refine J_widen (k := cs + 8) (n := ss + 80) (by omega) (by omega) ?_
    refine J_sub (l' := [some ((23, .ref (SB + 400)) : TV), some ((7, .ref x1) : TV), some ((8, .ref x2) : TV), some ((12, .ref x3) : TV), some ((0, .int x4) : TV), none, none, none, none]) ⟨rfl, ⟨rfl, ⟨rfl, ⟨rfl, ⟨rfl, trivial⟩⟩⟩⟩⟩ ?_
    exact hk
  · refine J_dload (pc := 1929) hc dL_law_1929 rfl ?_
    refine J_dload (pc := 1931) hc dL_law_1931 rfl ?_
    refine J_dcmp (pc := 1933) hc dL_law_1933 ?_
    refine J_if_eq (pc := 1934) (tgt := 1945) hc dL_law_1934 (by decide) ?_ ?_
    · refine J_iconst (pc := 1945) (v := 0) hc dL_law_1945 (by decide) ?_
      refine J_widen (k := 601024) (n := 7293034) (by omega) (by omega) ?_
      exact J_zret (pc := 1946) he dL_law_1946
    · refine J_dload (pc := 1937) hc dL_law_1937 rfl ?_
      refine J_dload (pc := 1939) hc dL_law_1939 rfl ?_
      refine J_dcmp (pc := 1941) hc dL_law_1941 ?_
      refine J_if_ne (pc := 1942) (tgt := 1947) hc dL_law_1942 (by decide) ?_ ?_
      · refine J_goto (pc := 1947) (tgt := 2172) hc dL_law_1947 (by decide) ?_
        refine J_widen (k := cs + 8) (n := ss + 80) (by omega) (by omega) ?_
        refine J_sub (l' := [some ((23, .ref (SB + 400)) : TV), some ((7, .ref x1) : TV), some ((8, .ref x2) : TV), some ((12, .ref x3) : TV), some ((0, .int x4) : TV), none, none, none, none]) ⟨rfl, ⟨rfl, ⟨rfl, ⟨rfl, ⟨rfl, trivial⟩⟩⟩⟩⟩ ?_
        exact hk
      · refine J_iconst (pc := 1945) (v := 0) hc dL_law_1945 (by decide) ?_
        refine J_widen (k := 601024) (n := 7293034) (by omega) (by omega) ?_
        exact J_zret (pc := 1946) he dL_law_1946
set_option maxRecDepth 100000 in
set_option maxHeartbeats 8000000 in
theorem jL_c32 {κ : Cx} {fin : Int32 → Mm → Prop} {L : Nat} {xs : Nat → Int32} (hc : Jc κ RL cL_law 9 12 601024 7293034 452) (he : EdZ κ cL_law 601024 7293034 id fin) (hsx : JX κ L xs) (hN : NcK κ) {cs ss : Nat} (h1 : cs + 8 ≤ 601024) (h2 : ss + 80 ≤ 7293034) {k : Mm → Option (Int32 × Mm)} (x1 x2 x3 : Nat) (x4 : Int32) (hk : Jg κ (wM κ) 9 fin (cs + 8) (ss + 80) 2172 [some ((23, .ref (SB + 400)) : TV), some ((7, .ref x1) : TV), some ((8, .ref x2) : TV), some ((12, .ref x3) : TV), some ((0, .int x4) : TV), none, none, none, none] [] k) : Jg κ (wM κ) 9 fin cs ss 1950 [some ((23, .ref (SB + 400)) : TV), some ((7, .ref x1) : TV), some ((8, .ref x2) : TV), some ((12, .ref x3) : TV), some ((0, .int x4) : TV), none, none, none, none] [] (fL_c32 L xs k x1 x2 x3 x4) := by
  unfold fL_c32
  refine J_aload_n (pc := 1950) hc dL_law_1950 rfl rfl ?_
  refine J_aload_n (pc := 1951) hc dL_law_1951 rfl rfl ?_
  refine J_iload (pc := 1952) hc dL_law_1952 rfl ?_
  refine J_iconst (pc := 1954) (v := 1) hc dL_law_1954 (by decide) ?_
  refine J_iadd (pc := 1955) hc dL_law_1955 ?_
  refine J_sald (pc := 1956) hc hsx dL_law_1956 ?_
  refine J_aload_n (pc := 1957) hc dL_law_1957 rfl rfl ?_
  refine J_callSW (pc := 1958) hc hN (As := [((7, .ref x1) : TV), ((0, .int (xs ((x4 + 1)).toNatClampNeg)) : TV), ((12, .ref x3) : TV)]) (KL_write x1 (xs ((x4 + 1)).toNatClampNeg) x3) dL_law_1958 moL_write tw1087 tw1088 tw0 tw1089 rfl (Nat.le_of_ble_eq_true rfl) (Nat.le_of_ble_eq_true rfl) (by omega) (by omega) (Nat.le_of_ble_eq_true rfl) rfl (fun v1 => ?_)
  refine J_istore (pc := 1961) (l' := [some ((23, .ref (SB + 400)) : TV), some ((7, .ref x1) : TV), some ((8, .ref x2) : TV), some ((12, .ref x3) : TV), some ((0, .int x4) : TV), some ((0, .int v1) : TV), none, none, none]) hc dL_law_1961 (by decide) rfl rfl ?_
  refine J_aload_n (pc := 1963) hc dL_law_1963 rfl rfl ?_
  refine J_aload_n (pc := 1964) hc dL_law_1964 rfl rfl ?_
  refine J_iload (pc := 1965) hc dL_law_1965 rfl ?_
  refine J_iconst (pc := 1967) (v := 1) hc dL_law_1967 (by decide) ?_
  refine J_iadd (pc := 1968) hc dL_law_1968 ?_
  refine J_sald (pc := 1969) hc hsx dL_law_1969 ?_
  refine J_callVi (pc := 1970) hc clX8 (As := [((0, .int (xs ((x4 + 1)).toNatClampNeg)) : TV)]) (KX8_write x2 (xs ((x4 + 1)).toNatClampNeg)) dL_law_1970 moX8_write rfl tw1691 tw1692 tw1693 tw9 tw1694 rfl (Nat.le_of_ble_eq_true rfl) (Nat.le_of_ble_eq_true rfl) (by omega) (by omega) (Nat.le_of_ble_eq_true rfl) rfl (fun v2 => ?_)
  refine J_istore (pc := 1973) (l' := [some ((23, .ref (SB + 400)) : TV), some ((7, .ref x1) : TV), some ((8, .ref x2) : TV), some ((12, .ref x3) : TV), some ((0, .int x4) : TV), some ((0, .int v1) : TV), some ((0, .int v2) : TV), none, none]) hc dL_law_1973 (by decide) rfl rfl ?_
  refine J_aload_n (pc := 1975) hc dL_law_1975 rfl rfl ?_
  refine J_callVi (pc := 1976) hc clX8 (As := []) (KX8_thrown x2) dL_law_1976 moX8_thrown rfl tw1290 tw1291 tw1292 tw9 tw1293 rfl (Nat.le_of_ble_eq_true rfl) (Nat.le_of_ble_eq_true rfl) (by omega) (by omega) (Nat.le_of_ble_eq_true rfl) rfl (fun v3 => ?_)
  refine J_iload (pc := 1979) hc dL_law_1979 rfl ?_
  refine J_icmp_eq (pc := 1981) (tgt := 1986) hc dL_law_1981 (by decide) ?_ ?_
  · refine J_iload (pc := 1986) hc dL_law_1986 rfl ?_
    refine J_if_ne (pc := 1988) (tgt := 2003) hc dL_law_1988 (by decide) ?_ ?_
    · refine J_goto (pc := 2003) (tgt := 2172) hc dL_law_2003 (by decide) ?_
      refine J_widen (k := cs + 8) (n := ss + 80) (by omega) (by omega) ?_
      refine J_sub (l' := [some ((23, .ref (SB + 400)) : TV), some ((7, .ref x1) : TV), some ((8, .ref x2) : TV), some ((12, .ref x3) : TV), some ((0, .int x4) : TV), none, none, none, none]) ⟨rfl, ⟨rfl, ⟨rfl, ⟨rfl, ⟨rfl, trivial⟩⟩⟩⟩⟩ ?_
      exact hk
    · refine J_aload_n (pc := 1991) hc dL_law_1991 rfl rfl ?_
      refine J_iconst (pc := 1992) (v := 0) hc dL_law_1992 (by decide) ?_
      refine J_lald (pc := 1993) hc dL_law_1993 (fun v4 => ?_)
      refine J_iload (pc := 1994) hc dL_law_1994 rfl ?_
      refine J_i2l (pc := 1996) hc dL_law_1996 ?_
      refine J_lcmp (pc := 1997) hc dL_law_1997 ?_
      refine J_if_eq (pc := 1998) (tgt := 2003) hc dL_law_1998 (by decide) ?_ ?_
      · refine J_goto (pc := 2003) (tgt := 2172) hc dL_law_2003 (by decide) ?_
        refine J_widen (k := cs + 8) (n := ss + 80) (by omega) (by omega) ?_
        refine J_sub (l' := [some ((23, .ref (SB + 400)) : TV), some ((7, .ref x1) : TV), some ((8, .ref x2) : TV), some ((12, .ref x3) : TV), some ((0, .int x4) : TV), none, none, none, none]) ⟨rfl, ⟨rfl, ⟨rfl, ⟨rfl, ⟨rfl, trivial⟩⟩⟩⟩⟩ ?_
        exact hk
      · refine J_iconst (pc := 2001) (v := 0) hc dL_law_2001 (by decide) ?_
        refine J_widen (k := 601024) (n := 7293034) (by omega) (by omega) ?_
        exact J_zret (pc := 2002) he dL_law_2002
  · refine J_iconst (pc := 1984) (v := 0) hc dL_law_1984 (by decide) ?_
    refine J_widen (k := 601024) (n := 7293034) (by omega) (by omega) ?_
    exact J_zret (pc := 1985) he dL_law_1985
set_option maxRecDepth 100000 in
set_option maxHeartbeats 8000000 in
theorem jL_c33 {κ : Cx} {fin : Int32 → Mm → Prop} {L : Nat} {xs : Nat → Int32} (hc : Jc κ RL cL_law 9 12 601024 7293034 452) (he : EdZ κ cL_law 601024 7293034 id fin) (hsx : JX κ L xs) (hN : NcK κ) {cs ss : Nat} (h1 : cs + 8 ≤ 601024) (h2 : ss + 80 ≤ 7293034) {k : Mm → Option (Int32 × Mm)} (x1 x2 x3 : Nat) (x4 : Int32) (hk : Jg κ (wM κ) 9 fin (cs + 8) (ss + 80) 2172 [some ((23, .ref (SB + 400)) : TV), some ((7, .ref x1) : TV), some ((8, .ref x2) : TV), some ((12, .ref x3) : TV), some ((0, .int x4) : TV), none, none, none, none] [] k) : Jg κ (wM κ) 9 fin cs ss 2006 [some ((23, .ref (SB + 400)) : TV), some ((7, .ref x1) : TV), some ((8, .ref x2) : TV), some ((12, .ref x3) : TV), some ((0, .int x4) : TV), none, none, none, none] [] (fL_c33 L xs k x1 x2 x3 x4) := by
  unfold fL_c33
  refine J_aload_n (pc := 2006) hc dL_law_2006 rfl rfl ?_
  refine J_aload_n (pc := 2007) hc dL_law_2007 rfl rfl ?_
  refine J_iload (pc := 2008) hc dL_law_2008 rfl ?_
  refine J_iconst (pc := 2010) (v := 1) hc dL_law_2010 (by decide) ?_
  refine J_iadd (pc := 2011) hc dL_law_2011 ?_
  refine J_sald (pc := 2012) hc hsx dL_law_2012 ?_
  refine J_aload_n (pc := 2013) hc dL_law_2013 rfl rfl ?_
  refine J_callSW (pc := 2014) hc hN (As := [((7, .ref x1) : TV), ((0, .int (xs ((x4 + 1)).toNatClampNeg)) : TV), ((12, .ref x3) : TV)]) (KL_show x1 (xs ((x4 + 1)).toNatClampNeg) x3) dL_law_2014 moL_show tw1123 tw1124 tw0 tw1125 rfl (Nat.le_of_ble_eq_true rfl) (Nat.le_of_ble_eq_true rfl) (by omega) (by omega) (Nat.le_of_ble_eq_true rfl) rfl (fun v1 => ?_)
  refine J_istore (pc := 2017) (l' := [some ((23, .ref (SB + 400)) : TV), some ((7, .ref x1) : TV), some ((8, .ref x2) : TV), some ((12, .ref x3) : TV), some ((0, .int x4) : TV), some ((0, .int v1) : TV), none, none, none]) hc dL_law_2017 (by decide) rfl rfl ?_
  refine J_aload_n (pc := 2019) hc dL_law_2019 rfl rfl ?_
  refine J_aload_n (pc := 2020) hc dL_law_2020 rfl rfl ?_
  refine J_iload (pc := 2021) hc dL_law_2021 rfl ?_
  refine J_iconst (pc := 2023) (v := 1) hc dL_law_2023 (by decide) ?_
  refine J_iadd (pc := 2024) hc dL_law_2024 ?_
  refine J_sald (pc := 2025) hc hsx dL_law_2025 ?_
  refine J_callVi (pc := 2026) hc clX8 (As := [((0, .int (xs ((x4 + 1)).toNatClampNeg)) : TV)]) (KX8_show x2 (xs ((x4 + 1)).toNatClampNeg)) dL_law_2026 moX8_show rfl tw1711 tw1712 tw1713 tw9 tw1714 rfl (Nat.le_of_ble_eq_true rfl) (Nat.le_of_ble_eq_true rfl) (by omega) (by omega) (Nat.le_of_ble_eq_true rfl) rfl (fun v2 => ?_)
  refine J_istore (pc := 2029) (l' := [some ((23, .ref (SB + 400)) : TV), some ((7, .ref x1) : TV), some ((8, .ref x2) : TV), some ((12, .ref x3) : TV), some ((0, .int x4) : TV), some ((0, .int v1) : TV), some ((0, .int v2) : TV), none, none]) hc dL_law_2029 (by decide) rfl rfl ?_
  refine J_aload_n (pc := 2031) hc dL_law_2031 rfl rfl ?_
  refine J_callVi (pc := 2032) hc clX8 (As := []) (KX8_thrown x2) dL_law_2032 moX8_thrown rfl tw1290 tw1291 tw1292 tw9 tw1293 rfl (Nat.le_of_ble_eq_true rfl) (Nat.le_of_ble_eq_true rfl) (by omega) (by omega) (Nat.le_of_ble_eq_true rfl) rfl (fun v3 => ?_)
  refine J_iload (pc := 2035) hc dL_law_2035 rfl ?_
  refine J_icmp_eq (pc := 2037) (tgt := 2042) hc dL_law_2037 (by decide) ?_ ?_
  · refine J_iload (pc := 2042) hc dL_law_2042 rfl ?_
    refine J_if_ne (pc := 2044) (tgt := 2059) hc dL_law_2044 (by decide) ?_ ?_
    · refine J_goto (pc := 2059) (tgt := 2172) hc dL_law_2059 (by decide) ?_
      refine J_widen (k := cs + 8) (n := ss + 80) (by omega) (by omega) ?_
      refine J_sub (l' := [some ((23, .ref (SB + 400)) : TV), some ((7, .ref x1) : TV), some ((8, .ref x2) : TV), some ((12, .ref x3) : TV), some ((0, .int x4) : TV), none, none, none, none]) ⟨rfl, ⟨rfl, ⟨rfl, ⟨rfl, ⟨rfl, trivial⟩⟩⟩⟩⟩ ?_
      exact hk
    · refine J_aload_n (pc := 2047) hc dL_law_2047 rfl rfl ?_
      refine J_iconst (pc := 2048) (v := 0) hc dL_law_2048 (by decide) ?_
      refine J_lald (pc := 2049) hc dL_law_2049 (fun v4 => ?_)
      refine J_iload (pc := 2050) hc dL_law_2050 rfl ?_
      refine J_i2l (pc := 2052) hc dL_law_2052 ?_
      refine J_lcmp (pc := 2053) hc dL_law_2053 ?_
      refine J_if_eq (pc := 2054) (tgt := 2059) hc dL_law_2054 (by decide) ?_ ?_
      · refine J_goto (pc := 2059) (tgt := 2172) hc dL_law_2059 (by decide) ?_
        refine J_widen (k := cs + 8) (n := ss + 80) (by omega) (by omega) ?_
        refine J_sub (l' := [some ((23, .ref (SB + 400)) : TV), some ((7, .ref x1) : TV), some ((8, .ref x2) : TV), some ((12, .ref x3) : TV), some ((0, .int x4) : TV), none, none, none, none]) ⟨rfl, ⟨rfl, ⟨rfl, ⟨rfl, ⟨rfl, trivial⟩⟩⟩⟩⟩ ?_
        exact hk
      · refine J_iconst (pc := 2057) (v := 0) hc dL_law_2057 (by decide) ?_
        refine J_widen (k := 601024) (n := 7293034) (by omega) (by omega) ?_
        exact J_zret (pc := 2058) he dL_law_2058
  · refine J_iconst (pc := 2040) (v := 0) hc dL_law_2040 (by decide) ?_
    refine J_widen (k := 601024) (n := 7293034) (by omega) (by omega) ?_
    exact J_zret (pc := 2041) he dL_law_2041
set_option maxRecDepth 100000 in
set_option maxHeartbeats 8000000 in
theorem jL_c34 {κ : Cx} {fin : Int32 → Mm → Prop} {L : Nat} {xs : Nat → Int32} (hc : Jc κ RL cL_law 9 12 601024 7293034 452) (he : EdZ κ cL_law 601024 7293034 id fin) (hsx : JX κ L xs) (hN : NcK κ) {cs ss : Nat} (h1 : cs + 8 ≤ 601024) (h2 : ss + 80 ≤ 7293034) {k : Mm → Option (Int32 × Mm)} (x1 x2 x3 : Nat) (x4 : Int32) (hk : Jg κ (wM κ) 9 fin (cs + 8) (ss + 80) 2172 [some ((23, .ref (SB + 400)) : TV), some ((7, .ref x1) : TV), some ((8, .ref x2) : TV), some ((12, .ref x3) : TV), some ((0, .int x4) : TV), none, none, none, none] [] k) : Jg κ (wM κ) 9 fin cs ss 2062 [some ((23, .ref (SB + 400)) : TV), some ((7, .ref x1) : TV), some ((8, .ref x2) : TV), some ((12, .ref x3) : TV), some ((0, .int x4) : TV), none, none, none, none] [] (fL_c34 L xs k x1 x2 x3 x4) := by
  unfold fL_c34
  refine J_aload_n (pc := 2062) hc dL_law_2062 rfl rfl ?_
  refine J_aload_n (pc := 2063) hc dL_law_2063 rfl rfl ?_
  refine J_iload (pc := 2064) hc dL_law_2064 rfl ?_
  refine J_iconst (pc := 2066) (v := 1) hc dL_law_2066 (by decide) ?_
  refine J_iadd (pc := 2067) hc dL_law_2067 ?_
  refine J_sald (pc := 2068) hc hsx dL_law_2068 ?_
  refine J_callVi (pc := 2069) hc clX7 (As := [((0, .int (xs ((x4 + 1)).toNatClampNeg)) : TV)]) (KX7_output x1 (xs ((x4 + 1)).toNatClampNeg)) dL_law_2069 moX7_output rfl tw690 tw691 tw692 tw1 tw693 rfl (Nat.le_of_ble_eq_true rfl) (Nat.le_of_ble_eq_true rfl) (by omega) (by omega) (Nat.le_of_ble_eq_true rfl) rfl (fun v1 => ?_)
  refine J_aload_n (pc := 2072) hc dL_law_2072 rfl rfl ?_
  refine J_aload_n (pc := 2073) hc dL_law_2073 rfl rfl ?_
  refine J_iload (pc := 2074) hc dL_law_2074 rfl ?_
  refine J_iconst (pc := 2076) (v := 1) hc dL_law_2076 (by decide) ?_
  refine J_iadd (pc := 2077) hc dL_law_2077 ?_
  refine J_sald (pc := 2078) hc hsx dL_law_2078 ?_
  refine J_callVi (pc := 2079) hc clX8 (As := [((0, .int (xs ((x4 + 1)).toNatClampNeg)) : TV)]) (KX8_output x2 (xs ((x4 + 1)).toNatClampNeg)) dL_law_2079 moX8_output rfl tw1715 tw1716 tw1717 tw9 tw1718 rfl (Nat.le_of_ble_eq_true rfl) (Nat.le_of_ble_eq_true rfl) (by omega) (by omega) (Nat.le_of_ble_eq_true rfl) rfl (fun v2 => ?_)
  refine J_icmp_eq (pc := 2082) (tgt := 2172) hc dL_law_2082 (by decide) ?_ ?_
  · refine J_widen (k := cs + 8) (n := ss + 80) (by omega) (by omega) ?_
    refine J_sub (l' := [some ((23, .ref (SB + 400)) : TV), some ((7, .ref x1) : TV), some ((8, .ref x2) : TV), some ((12, .ref x3) : TV), some ((0, .int x4) : TV), none, none, none, none]) ⟨rfl, ⟨rfl, ⟨rfl, ⟨rfl, ⟨rfl, trivial⟩⟩⟩⟩⟩ ?_
    exact hk
  · refine J_iconst (pc := 2085) (v := 0) hc dL_law_2085 (by decide) ?_
    refine J_widen (k := 601024) (n := 7293034) (by omega) (by omega) ?_
    exact J_zret (pc := 2086) he dL_law_2086
set_option maxRecDepth 100000 in
set_option maxHeartbeats 8000000 in
theorem jL_c35 {κ : Cx} {fin : Int32 → Mm → Prop} {L : Nat} {xs : Nat → Int32} (hc : Jc κ RL cL_law 9 12 601024 7293034 452) (he : EdZ κ cL_law 601024 7293034 id fin) (hsx : JX κ L xs) (hN : NcK κ) {cs ss : Nat} (h1 : cs + 8 ≤ 601024) (h2 : ss + 80 ≤ 7293034) {k : Mm → Option (Int32 × Mm)} (x1 x2 x3 : Nat) (x4 : Int32) (hk : Jg κ (wM κ) 9 fin (cs + 8) (ss + 80) 2172 [some ((23, .ref (SB + 400)) : TV), some ((7, .ref x1) : TV), some ((8, .ref x2) : TV), some ((12, .ref x3) : TV), some ((0, .int x4) : TV), none, none, none, none] [] k) : Jg κ (wM κ) 9 fin cs ss 2087 [some ((23, .ref (SB + 400)) : TV), some ((7, .ref x1) : TV), some ((8, .ref x2) : TV), some ((12, .ref x3) : TV), some ((0, .int x4) : TV), none, none, none, none] [] (fL_c35 L xs k x1 x2 x3 x4) := by
  unfold fL_c35
  refine J_aload_n (pc := 2087) hc dL_law_2087 rfl rfl ?_
  refine J_callVi (pc := 2088) hc clX7 (As := []) (KX7_undo x1) dL_law_2088 moX7_undo rfl tw694 tw695 tw696 tw1 tw697 rfl (Nat.le_of_ble_eq_true rfl) (Nat.le_of_ble_eq_true rfl) (by omega) (by omega) (Nat.le_of_ble_eq_true rfl) rfl (fun v1 => ?_)
  refine J_aload_n (pc := 2091) hc dL_law_2091 rfl rfl ?_
  refine J_callVi (pc := 2092) hc clX8 (As := []) (KX8_undo x2) dL_law_2092 moX8_undo rfl tw1719 tw1720 tw1721 tw9 tw1722 rfl (Nat.le_of_ble_eq_true rfl) (Nat.le_of_ble_eq_true rfl) (by omega) (by omega) (Nat.le_of_ble_eq_true rfl) rfl (fun v2 => ?_)
  refine J_icmp_eq (pc := 2095) (tgt := 2172) hc dL_law_2095 (by decide) ?_ ?_
  · refine J_widen (k := cs + 8) (n := ss + 80) (by omega) (by omega) ?_
    refine J_sub (l' := [some ((23, .ref (SB + 400)) : TV), some ((7, .ref x1) : TV), some ((8, .ref x2) : TV), some ((12, .ref x3) : TV), some ((0, .int x4) : TV), none, none, none, none]) ⟨rfl, ⟨rfl, ⟨rfl, ⟨rfl, ⟨rfl, trivial⟩⟩⟩⟩⟩ ?_
    exact hk
  · refine J_iconst (pc := 2098) (v := 0) hc dL_law_2098 (by decide) ?_
    refine J_widen (k := 601024) (n := 7293034) (by omega) (by omega) ?_
    exact J_zret (pc := 2099) he dL_law_2099
set_option maxRecDepth 100000 in
set_option maxHeartbeats 8000000 in
theorem jL_c36 {κ : Cx} {fin : Int32 → Mm → Prop} {L : Nat} {xs : Nat → Int32} (hc : Jc κ RL cL_law 9 12 601024 7293034 452) (he : EdZ κ cL_law 601024 7293034 id fin) (hsx : JX κ L xs) (hN : NcK κ) {cs ss : Nat} (h1 : cs + 8 ≤ 601024) (h2 : ss + 80 ≤ 7293034) {k : Mm → Option (Int32 × Mm)} (x1 x2 x3 : Nat) (x4 : Int32) (hk : Jg κ (wM κ) 9 fin (cs + 8) (ss + 80) 2172 [some ((23, .ref (SB + 400)) : TV), some ((7, .ref x1) : TV), some ((8, .ref x2) : TV), some ((12, .ref x3) : TV), some ((0, .int x4) : TV), none, none, none, none] [] k) : Jg κ (wM κ) 9 fin cs ss 2100 [some ((23, .ref (SB + 400)) : TV), some ((7, .ref x1) : TV), some ((8, .ref x2) : TV), some ((12, .ref x3) : TV), some ((0, .int x4) : TV), none, none, none, none] [] (fL_c36 L xs k x1 x2 x3 x4) := by
  unfold fL_c36
  refine J_aload_n (pc := 2100) hc dL_law_2100 rfl rfl ?_
  refine J_aload_n (pc := 2101) hc dL_law_2101 rfl rfl ?_
  refine J_iload (pc := 2102) hc dL_law_2102 rfl ?_
  refine J_iconst (pc := 2104) (v := 1) hc dL_law_2104 (by decide) ?_
  refine J_iadd (pc := 2105) hc dL_law_2105 ?_
  refine J_sald (pc := 2106) hc hsx dL_law_2106 ?_
  refine J_callSW (pc := 2107) hc hN (As := [((7, .ref x1) : TV), ((0, .int (xs ((x4 + 1)).toNatClampNeg)) : TV)]) (KL_save x1 (xs ((x4 + 1)).toNatClampNeg)) dL_law_2107 moL_save tw1130 tw1131 tw0 tw1132 rfl (Nat.le_of_ble_eq_true rfl) (Nat.le_of_ble_eq_true rfl) (by omega) (by omega) (Nat.le_of_ble_eq_true rfl) rfl (fun v1 => ?_)
  refine J_istore (pc := 2110) (l' := [some ((23, .ref (SB + 400)) : TV), some ((7, .ref x1) : TV), some ((8, .ref x2) : TV), some ((12, .ref x3) : TV), some ((0, .int x4) : TV), some ((0, .int v1) : TV), none, none, none]) hc dL_law_2110 (by decide) rfl rfl ?_
  refine J_aload_n (pc := 2112) hc dL_law_2112 rfl rfl ?_
  refine J_aload_n (pc := 2113) hc dL_law_2113 rfl rfl ?_
  refine J_iload (pc := 2114) hc dL_law_2114 rfl ?_
  refine J_iconst (pc := 2116) (v := 1) hc dL_law_2116 (by decide) ?_
  refine J_iadd (pc := 2117) hc dL_law_2117 ?_
  refine J_sald (pc := 2118) hc hsx dL_law_2118 ?_
  refine J_callVv (pc := 2119) hc clX8 (As := [((0, .int (xs ((x4 + 1)).toNatClampNeg)) : TV)]) (KX8_save x2 (xs ((x4 + 1)).toNatClampNeg)) dL_law_2119 moX8_save rfl tw1723 tw1724 tw1725 tw9 tw1726 rfl (Nat.le_of_ble_eq_true rfl) (Nat.le_of_ble_eq_true rfl) (by omega) (by omega) (Nat.le_of_ble_eq_true rfl) rfl (fun _ => ?_)
  refine J_aload_n (pc := 2122) hc dL_law_2122 rfl rfl ?_
  refine J_callVi (pc := 2123) hc clX8 (As := []) (KX8_thrown x2) dL_law_2123 moX8_thrown rfl tw1290 tw1291 tw1292 tw9 tw1293 rfl (Nat.le_of_ble_eq_true rfl) (Nat.le_of_ble_eq_true rfl) (by omega) (by omega) (Nat.le_of_ble_eq_true rfl) rfl (fun v2 => ?_)
  refine J_iload (pc := 2126) hc dL_law_2126 rfl ?_
  refine J_icmp_eq (pc := 2128) (tgt := 2133) hc dL_law_2128 (by decide) ?_ ?_
  · refine J_goto (pc := 2133) (tgt := 2172) hc dL_law_2133 (by decide) ?_
    refine J_widen (k := cs + 8) (n := ss + 80) (by omega) (by omega) ?_
    refine J_sub (l' := [some ((23, .ref (SB + 400)) : TV), some ((7, .ref x1) : TV), some ((8, .ref x2) : TV), some ((12, .ref x3) : TV), some ((0, .int x4) : TV), none, none, none, none]) ⟨rfl, ⟨rfl, ⟨rfl, ⟨rfl, ⟨rfl, trivial⟩⟩⟩⟩⟩ ?_
    exact hk
  · refine J_iconst (pc := 2131) (v := 0) hc dL_law_2131 (by decide) ?_
    refine J_widen (k := 601024) (n := 7293034) (by omega) (by omega) ?_
    exact J_zret (pc := 2132) he dL_law_2132
set_option maxRecDepth 100000 in
set_option maxHeartbeats 8000000 in
theorem jL_c37 {κ : Cx} {fin : Int32 → Mm → Prop} {L : Nat} {xs : Nat → Int32} (hc : Jc κ RL cL_law 9 12 601024 7293034 452) (he : EdZ κ cL_law 601024 7293034 id fin) (hsx : JX κ L xs) (hN : NcK κ) {cs ss : Nat} (h1 : cs + 8 ≤ 601024) (h2 : ss + 80 ≤ 7293034) {k : Mm → Option (Int32 × Mm)} (x1 x2 x3 : Nat) (x4 : Int32) (hk : Jg κ (wM κ) 9 fin (cs + 8) (ss + 80) 2172 [some ((23, .ref (SB + 400)) : TV), some ((7, .ref x1) : TV), some ((8, .ref x2) : TV), some ((12, .ref x3) : TV), some ((0, .int x4) : TV), none, none, none, none] [] k) : Jg κ (wM κ) 9 fin cs ss 2136 [some ((23, .ref (SB + 400)) : TV), some ((7, .ref x1) : TV), some ((8, .ref x2) : TV), some ((12, .ref x3) : TV), some ((0, .int x4) : TV), none, none, none, none] [] (fL_c37 L xs k x1 x2 x3 x4) := by
  unfold fL_c37
  refine J_aload_n (pc := 2136) hc dL_law_2136 rfl rfl ?_
  refine J_aload_n (pc := 2137) hc dL_law_2137 rfl rfl ?_
  refine J_iload (pc := 2138) hc dL_law_2138 rfl ?_
  refine J_iconst (pc := 2140) (v := 1) hc dL_law_2140 (by decide) ?_
  refine J_iadd (pc := 2141) hc dL_law_2141 ?_
  refine J_sald (pc := 2142) hc hsx dL_law_2142 ?_
  refine J_callSW (pc := 2143) hc hN (As := [((7, .ref x1) : TV), ((0, .int (xs ((x4 + 1)).toNatClampNeg)) : TV)]) (KL_restore x1 (xs ((x4 + 1)).toNatClampNeg)) dL_law_2143 moL_restore tw1141 tw1142 tw0 tw1143 rfl (Nat.le_of_ble_eq_true rfl) (Nat.le_of_ble_eq_true rfl) (by omega) (by omega) (Nat.le_of_ble_eq_true rfl) rfl (fun v1 => ?_)
  refine J_istore (pc := 2146) (l' := [some ((23, .ref (SB + 400)) : TV), some ((7, .ref x1) : TV), some ((8, .ref x2) : TV), some ((12, .ref x3) : TV), some ((0, .int x4) : TV), some ((0, .int v1) : TV), none, none, none]) hc dL_law_2146 (by decide) rfl rfl ?_
  refine J_aload_n (pc := 2148) hc dL_law_2148 rfl rfl ?_
  refine J_aload_n (pc := 2149) hc dL_law_2149 rfl rfl ?_
  refine J_iload (pc := 2150) hc dL_law_2150 rfl ?_
  refine J_iconst (pc := 2152) (v := 1) hc dL_law_2152 (by decide) ?_
  refine J_iadd (pc := 2153) hc dL_law_2153 ?_
  refine J_sald (pc := 2154) hc hsx dL_law_2154 ?_
  refine J_callVv (pc := 2155) hc clX8 (As := [((0, .int (xs ((x4 + 1)).toNatClampNeg)) : TV)]) (KX8_restore x2 (xs ((x4 + 1)).toNatClampNeg)) dL_law_2155 moX8_restore rfl tw1727 tw1728 tw1729 tw9 tw1730 rfl (Nat.le_of_ble_eq_true rfl) (Nat.le_of_ble_eq_true rfl) (by omega) (by omega) (Nat.le_of_ble_eq_true rfl) rfl (fun _ => ?_)
  refine J_aload_n (pc := 2158) hc dL_law_2158 rfl rfl ?_
  refine J_callVi (pc := 2159) hc clX8 (As := []) (KX8_thrown x2) dL_law_2159 moX8_thrown rfl tw1290 tw1291 tw1292 tw9 tw1293 rfl (Nat.le_of_ble_eq_true rfl) (Nat.le_of_ble_eq_true rfl) (by omega) (by omega) (Nat.le_of_ble_eq_true rfl) rfl (fun v2 => ?_)
  refine J_iload (pc := 2162) hc dL_law_2162 rfl ?_
  refine J_icmp_eq (pc := 2164) (tgt := 2169) hc dL_law_2164 (by decide) ?_ ?_
  · refine J_goto (pc := 2169) (tgt := 2172) hc dL_law_2169 (by decide) ?_
    refine J_widen (k := cs + 8) (n := ss + 80) (by omega) (by omega) ?_
    refine J_sub (l' := [some ((23, .ref (SB + 400)) : TV), some ((7, .ref x1) : TV), some ((8, .ref x2) : TV), some ((12, .ref x3) : TV), some ((0, .int x4) : TV), none, none, none, none]) ⟨rfl, ⟨rfl, ⟨rfl, ⟨rfl, ⟨rfl, trivial⟩⟩⟩⟩⟩ ?_
    exact hk
  · refine J_iconst (pc := 2167) (v := 0) hc dL_law_2167 (by decide) ?_
    refine J_widen (k := 601024) (n := 7293034) (by omega) (by omega) ?_
    exact J_zret (pc := 2168) he dL_law_2168
