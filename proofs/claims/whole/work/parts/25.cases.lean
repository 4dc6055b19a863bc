section
variable {p : Program} {l : Launch} {e : Env} {R : Room} {s : State} {m : MethodId} {args : Array Value} {below : List Frame} {meth : Method} {c : Code} {H : Heap} {locs : List Loc} {cells slots : Nat} {Q : State → Prop}
variable {cc : ByteArray} {pc : Nat} {ls : Array Slot} {rest : List Value} {g : Gx} {ws : va_W} {own : String} {nL : Nat}
theorem kl_ld {b L i k : Nat} {xs : Nat → Int32} (hC : Cx g own cc nL p s m args c) (hX : va_X b L xs s s.heap) (hbl : b < s.heap.size) (hi : 6 * i + 6 ≤ L) (hL : L ≤ 3072) (hW : wA g ws (fun q => s.heap.size ≤ q) s.heap H locs) {kc : Int32} (hkc : kc = nI k) (hk : k < 6) (hdg : decode cc pc = .ok (.iaload, 1))
    (kk : W p l e R s m args below meth c H locs cells slots Q (F0 m (pc + 1) ls (.int (xs (6 * i + k)) :: rest))) : W p l e R s m args below meth c H locs cells slots Q (F0 m pc ls (.int (nI (6 * i) + kc) :: .ref b :: rest)) := by
  subst hkc
  rw [nI_add]
  refine va_sld hC.1 hC.2.1 hX hbl (Nat.not_le.mpr hbl) hW.2.2.1 (vp_in_nI (by omega) (by omega)) hdg ?_
  rw [nI_clamp (by omega)]
  exact kk
theorem kl_l0 {b L i : Nat} {xs : Nat → Int32} (hC : Cx g own cc nL p s m args c) (hX : va_X b L xs s s.heap) (hbl : b < s.heap.size) (hi : 6 * i + 6 ≤ L) (hL : L ≤ 3072) (hW : wA g ws (fun q => s.heap.size ≤ q) s.heap H locs) (hdg : decode cc pc = .ok (.iaload, 1))
    (kk : W p l e R s m args below meth c H locs cells slots Q (F0 m (pc + 1) ls (.int (xs (6 * i)) :: rest))) : W p l e R s m args below meth c H locs cells slots Q (F0 m pc ls (.int (nI (6 * i)) :: .ref b :: rest)) := by
  refine va_sld hC.1 hC.2.1 hX hbl (Nat.not_le.mpr hbl) hW.2.2.1 (vp_in_nI (by omega) (by omega)) hdg ?_
  rw [nI_clamp (by omega)]
  exact kk
end
theorem lg_cmp_self (v : Int64) : lg_cmp v v = 0 := by unfold lg_cmp; simp
theorem cw_L_13 : kw_v RL 13 yX11_now cX11_now 2 (some .boolean) 1 := ⟨tw_456, tw_457, tw_458, tw_1, tw_459, by decide, by decide, by decide +kernel⟩
theorem cw_L_17 : kw_v RL 17 yX12_now cX12_now 2 (some .boolean) 1 := ⟨tw_1397, tw_1398, tw_1399, tw_13, tw_1400, by decide, by decide, by decide +kernel⟩
theorem cw_L_18 : kw_v RL 18 yX11_book cX11_book 6 (some .int) 4 := ⟨tw_463, tw_464, tw_465, tw_1, tw_466, by decide, by decide, by decide +kernel⟩
theorem cw_L_22 : kw_v RL 22 yX12_book cX12_book 5 (some .int) 4 := ⟨tw_1404, tw_1405, tw_1406, tw_13, tw_1407, by decide, by decide, by decide +kernel⟩
theorem cw_L_23 : kw_v RL 23 yX11_shelf cX11_shelf 3 (some .boolean) 2 := ⟨tw_471, tw_472, tw_473, tw_1, tw_474, by decide, by decide, by decide +kernel⟩
theorem cw_L_27 : kw_v RL 27 yX12_shelf cX12_shelf 3 (some .boolean) 2 := ⟨tw_1408, tw_1409, tw_1410, tw_13, tw_1411, by decide, by decide, by decide +kernel⟩
theorem cw_L_28 : kw_v RL 28 yX11_stop cX11_stop 5 (some .int) 3 := ⟨tw_487, tw_488, tw_489, tw_1, tw_490, by decide, by decide, by decide +kernel⟩
theorem cw_L_32 : kw_v RL 32 yX12_stop cX12_stop 4 (some .int) 3 := ⟨tw_1419, tw_1420, tw_1421, tw_13, tw_1422, by decide, by decide, by decide +kernel⟩
theorem cw_L_33 : kw_v RL 33 yX11_visit cX11_visit 4 (some .boolean) 3 := ⟨tw_495, tw_496, tw_497, tw_1, tw_498, by decide, by decide, by decide +kernel⟩
theorem cw_L_37 : kw_v RL 37 yX12_visit cX12_visit 4 (some .boolean) 3 := ⟨tw_1423, tw_1424, tw_1425, tw_13, tw_1426, by decide, by decide, by decide +kernel⟩
theorem cw_L_38 : kw_v RL 38 yX11_reader cX11_reader 4 (some .int) 2 := ⟨tw_508, tw_509, tw_510, tw_1, tw_511, by decide, by decide, by decide +kernel⟩
theorem cw_L_42 : kw_v RL 42 yX12_reader cX12_reader 4 (some .int) 2 := ⟨tw_1431, tw_1432, tw_1433, tw_13, tw_1434, by decide, by decide, by decide +kernel⟩
theorem cw_L_43 : kw_v RL 43 yX11_taste cX11_taste 4 (some .boolean) 3 := ⟨tw_516, tw_517, tw_518, tw_1, tw_519, by decide, by decide, by decide +kernel⟩
theorem cw_L_46 : kw_v RL 46 yX12_taste cX12_taste 4 (some .boolean) 3 := ⟨tw_1435, tw_1436, tw_1437, tw_13, tw_1438, by decide, by decide, by decide +kernel⟩
theorem cw_L_47 : kw_v RL 47 yX11_had cX11_had 3 (some .boolean) 2 := ⟨tw_525, tw_526, tw_527, tw_1, tw_528, by decide, by decide, by decide +kernel⟩
theorem cw_L_50 : kw_v RL 50 yX12_had cX12_had 3 (some .boolean) 2 := ⟨tw_1443, tw_1444, tw_1445, tw_13, tw_1446, by decide, by decide, by decide +kernel⟩
theorem cw_L_51 : kw_v RL 51 yX11_feed cX11_feed 6 (some .int) 5 := ⟨tw_548, tw_549, tw_550, tw_1, tw_551, by decide, by decide, by decide +kernel⟩
theorem cw_L_55 : kw_v RL 55 yX12_feed cX12_feed 6 (some .int) 5 := ⟨tw_1451, tw_1452, tw_1453, tw_13, tw_1454, by decide, by decide, by decide +kernel⟩
theorem cw_L_56 : kw_v RL 56 yX11_law cX11_law 4 (some .int) 1 := ⟨tw_556, tw_557, tw_558, tw_1, tw_559, by decide, by decide, by decide +kernel⟩
theorem cw_L_60 : kw_v RL 60 yX12_law cX12_law 4 (some .int) 1 := ⟨tw_1459, tw_1460, tw_1461, tw_13, tw_1462, by decide, by decide, by decide +kernel⟩
theorem cw_L_61 : kw_v RL 61 yX11_wants cX11_wants 4 (some .int) 3 := ⟨tw_661, tw_662, tw_663, tw_1, tw_664, by decide, by decide, by decide +kernel⟩
theorem cw_L_65 : kw_v RL 65 yX12_wants cX12_wants 4 (some .int) 3 := ⟨tw_1542, tw_1543, tw_1544, tw_13, tw_1545, by decide, by decide, by decide +kernel⟩
theorem cw_L_66 : kw_v RL 66 yX11_visits cX11_visits 4 (some .int) 3 := ⟨tw_711, tw_712, tw_713, tw_1, tw_714, by decide, by decide, by decide +kernel⟩
theorem cw_L_69 : kw_v RL 69 yX12_visits cX12_visits 4 (some .int) 3 := ⟨tw_1569, tw_1570, tw_1571, tw_13, tw_1572, by decide, by decide, by decide +kernel⟩
theorem cw_L_70 : kw_v RL 70 yX11_move cX11_move 5 (some .boolean) 2 := ⟨tw_731, tw_732, tw_733, tw_1, tw_734, by decide, by decide, by decide +kernel⟩
theorem cw_L_73 : kw_v RL 73 yX12_move cX12_move 3 (some .boolean) 2 := ⟨tw_1583, tw_1584, tw_1585, tw_13, tw_1586, by decide, by decide, by decide +kernel⟩
theorem cw_L_74 : kw_v RL 74 yX11_lend cX11_lend 5 (some .int) 2 := ⟨tw_752, tw_753, tw_754, tw_1, tw_755, by decide, by decide, by decide +kernel⟩
theorem cw_L_77 : kw_v RL 77 yX12_lend cX12_lend 4 (some .int) 2 := ⟨tw_1595, tw_1596, tw_1597, tw_13, tw_1598, by decide, by decide, by decide +kernel⟩
theorem cw_L_78 : kw_v RL 78 yX11_back cX11_back 6 (some .int) 3 := ⟨tw_769, tw_770, tw_771, tw_1, tw_772, by decide, by decide, by decide +kernel⟩
theorem cw_L_81 : kw_v RL 81 yX12_back cX12_back 6 (some .int) 3 := ⟨tw_1599, tw_1600, tw_1601, tw_13, tw_1602, by decide, by decide, by decide +kernel⟩
theorem cw_L_82 : kw_v RL 82 yX11_lost cX11_lost 3 (some .int) 1 := ⟨tw_785, tw_786, tw_787, tw_1, tw_788, by decide, by decide, by decide +kernel⟩
theorem cw_L_85 : kw_v RL 85 yX12_lost cX12_lost 3 (some .int) 1 := ⟨tw_1607, tw_1608, tw_1609, tw_13, tw_1610, by decide, by decide, by decide +kernel⟩
theorem cw_L_86 : kw_v RL 86 yX11_bookIs cX11_bookIs 3 (some .int) 2 := ⟨tw_789, tw_790, tw_791, tw_1, tw_792, by decide, by decide, by decide +kernel⟩
theorem cw_L_89 : kw_v RL 89 yX12_bookIs cX12_bookIs 3 (some .int) 2 := ⟨tw_1611, tw_1612, tw_1613, tw_13, tw_1614, by decide, by decide, by decide +kernel⟩
theorem cw_L_90 : kw_v RL 90 yX11_readerIs cX11_readerIs 3 (some .int) 2 := ⟨tw_794, tw_795, tw_796, tw_1, tw_797, by decide, by decide, by decide +kernel⟩
theorem cw_L_93 : kw_v RL 93 yX12_readerIs cX12_readerIs 5 (some .int) 2 := ⟨tw_1619, tw_1620, tw_1621, tw_13, tw_1622, by decide, by decide, by decide +kernel⟩
theorem cw_L_94 : kw_v RL 94 yX11_pays cX11_pays 3 (some .int) 2 := ⟨tw_802, tw_803, tw_804, tw_1, tw_805, by decide, by decide, by decide +kernel⟩
theorem cw_L_97 : kw_v RL 97 yX12_pays cX12_pays 3 (some .int) 2 := ⟨tw_1627, tw_1628, tw_1629, tw_13, tw_1630, by decide, by decide, by decide +kernel⟩
theorem cw_L_98 : kw_v RL 98 yX11_ask cX11_ask 5 (some .boolean) 3 := ⟨tw_806, tw_807, tw_808, tw_1, tw_809, by decide, by decide, by decide +kernel⟩
theorem cw_L_101 : kw_v RL 101 yX12_ask cX12_ask 4 (some .boolean) 3 := ⟨tw_1631, tw_1632, tw_1633, tw_13, tw_1634, by decide, by decide, by decide +kernel⟩
theorem cw_L_102 : kw_v RL 102 yX11_unask cX11_unask 3 (some .boolean) 2 := ⟨tw_820, tw_821, tw_822, tw_1, tw_823, by decide, by decide, by decide +kernel⟩
theorem cw_L_105 : kw_v RL 105 yX12_unask cX12_unask 3 (some .boolean) 2 := ⟨tw_1639, tw_1640, tw_1641, tw_13, tw_1642, by decide, by decide, by decide +kernel⟩
theorem cw_L_106 : kw_v RL 106 yX11_aboard cX11_aboard 3 (some .long) 2 := ⟨tw_824, tw_825, tw_826, tw_1, tw_827, by decide, by decide, by decide +kernel⟩
theorem cw_L_110 : kw_v RL 110 yX12_aboard cX12_aboard 3 (some .long) 2 := ⟨tw_1643, tw_1644, tw_1645, tw_13, tw_1646, by decide, by decide, by decide +kernel⟩
theorem cw_L_111 : kw_v RL 111 yX11_promise cX11_promise 3 (some .int) 2 := ⟨tw_843, tw_844, tw_845, tw_1, tw_846, by decide, by decide, by decide +kernel⟩
theorem cw_L_114 : kw_v RL 114 yX12_promise cX12_promise 3 (some .int) 2 := ⟨tw_1652, tw_1653, tw_1654, tw_13, tw_1655, by decide, by decide, by decide +kernel⟩
theorem cw_L_115 : kw_v RL 115 yX11_whyNot cX11_whyNot 4 (some .int) 2 := ⟨tw_861, tw_862, tw_863, tw_1, tw_864, by decide, by decide, by decide +kernel⟩
theorem cw_L_118 : kw_v RL 118 yX12_whyNot cX12_whyNot 6 (some .int) 2 := ⟨tw_1664, tw_1665, tw_1666, tw_13, tw_1667, by decide, by decide, by decide +kernel⟩
theorem cw_L_119 : kw_v RL 119 yX11_ring cX11_ring 2 (some .int) 1 := ⟨tw_877, tw_878, tw_879, tw_1, tw_880, by decide, by decide, by decide +kernel⟩
theorem cw_L_122 : kw_v RL 122 yX12_ring cX12_ring 3 (some .int) 1 := ⟨tw_1676, tw_1677, tw_1678, tw_13, tw_1679, by decide, by decide, by decide +kernel⟩
theorem cw_L_123 : kw_v RL 123 yX11_load cX11_load 5 (some .long) 4 := ⟨tw_903, tw_904, tw_905, tw_1, tw_906, by decide, by decide, by decide +kernel⟩
theorem cw_L_127 : kw_v RL 127 yX12_load cX12_load 20 (some .long) 4 := ⟨tw_1692, tw_1693, tw_1694, tw_13, tw_1695, by decide, by decide, by decide +kernel⟩
theorem cw_L_130 : kw_v RL 130 yX11_served cX11_served 8 (some .int) 3 := ⟨tw_958, tw_959, tw_960, tw_1, tw_961, by decide, by decide, by decide +kernel⟩
theorem cw_L_134 : kw_v RL 134 yX12_served cX12_served 5 (some .int) 3 := ⟨tw_1724, tw_1725, tw_1726, tw_13, tw_1727, by decide, by decide, by decide +kernel⟩
theorem cw_L_135 : kw_v RL 135 yX11_least cX11_least 6 (some .int) 1 := ⟨tw_979, tw_980, tw_981, tw_1, tw_982, by decide, by decide, by decide +kernel⟩
theorem cw_L_138 : kw_v RL 138 yX12_least cX12_least 6 (some .int) 1 := ⟨tw_1728, tw_1729, tw_1730, tw_13, tw_1731, by decide, by decide, by decide +kernel⟩
theorem cw_L_139 : kw_v RL 139 yX11_dull cX11_dull 6 (some .long) 2 := ⟨tw_992, tw_993, tw_994, tw_1, tw_995, by decide, by decide, by decide +kernel⟩
theorem cw_L_142 : kw_v RL 142 yX12_dull cX12_dull 6 (some .long) 2 := ⟨tw_1736, tw_1737, tw_1738, tw_13, tw_1739, by decide, by decide, by decide +kernel⟩
theorem cw_L_143 : kw_v RL 143 yX11_onward cX11_onward 7 (some .int) 2 := ⟨tw_1000, tw_1001, tw_1002, tw_1, tw_1003, by decide, by decide, by decide +kernel⟩
theorem cw_L_146 : kw_v RL 146 yX12_onward cX12_onward 7 (some .int) 2 := ⟨tw_1744, tw_1745, tw_1746, tw_13, tw_1747, by decide, by decide, by decide +kernel⟩
theorem cw_L_147 : kw_v RL 147 yX11_different cX11_different 7 (some .int) 2 := ⟨tw_1004, tw_1005, tw_1006, tw_1, tw_1007, by decide, by decide, by decide +kernel⟩
theorem cw_L_150 : kw_v RL 150 yX12_different cX12_different 6 (some .int) 2 := ⟨tw_1748, tw_1749, tw_1750, tw_13, tw_1751, by decide, by decide, by decide +kernel⟩
theorem cw_L_151 : kw_v RL 151 yX11_pace cX11_pace 2 (some .boolean) 1 := ⟨tw_1013, tw_1014, tw_1015, tw_1, tw_1016, by decide, by decide, by decide +kernel⟩
theorem cw_L_154 : kw_v RL 154 yX12_pace cX12_pace 2 (some .boolean) 1 := ⟨tw_1756, tw_1757, tw_1758, tw_13, tw_1759, by decide, by decide, by decide +kernel⟩
theorem cw_L_155 : kw_v RL 155 yX11_round cX11_round 6 (some .int) 3 := ⟨tw_1017, tw_1018, tw_1019, tw_1, tw_1020, by decide, by decide, by decide +kernel⟩
theorem cw_L_158 : kw_v RL 158 yX12_round cX12_round 5 (some .int) 3 := ⟨tw_1760, tw_1761, tw_1762, tw_13, tw_1763, by decide, by decide, by decide +kernel⟩
theorem cw_L_159 : kw_v RL 159 yX11_went cX11_went 3 (some .int) 2 := ⟨tw_1058, tw_1059, tw_1060, tw_1, tw_1061, by decide, by decide, by decide +kernel⟩
theorem cw_L_162 : kw_v RL 162 yX12_went cX12_went 4 (some .int) 2 := ⟨tw_1789, tw_1790, tw_1791, tw_13, tw_1792, by decide, by decide, by decide +kernel⟩
theorem cw_L_163 : kw_v RL 163 yX11_lostDay cX11_lostDay 10 (some .int) 4 := ⟨tw_1074, tw_1075, tw_1076, tw_1, tw_1077, by decide, by decide, by decide +kernel⟩
theorem cw_L_166 : kw_v RL 166 yX12_lostDay cX12_lostDay 8 (some .int) 4 := ⟨tw_1801, tw_1802, tw_1803, tw_13, tw_1804, by decide, by decide, by decide +kernel⟩
theorem cw_L_167 : kw_v RL 167 yX11_put cX11_put 3 (some .int) 2 := ⟨tw_1101, tw_1102, tw_1103, tw_1, tw_1104, by decide, by decide, by decide +kernel⟩
theorem cw_L_170 : kw_v RL 170 yX12_put cX12_put 3 (some .int) 2 := ⟨tw_1813, tw_1814, tw_1815, tw_13, tw_1816, by decide, by decide, by decide +kernel⟩
theorem cw_L_171 : kw_v RL 171 yX11_knownIn cX11_knownIn 2 (some .boolean) 1 := ⟨tw_1105, tw_1106, tw_1107, tw_1, tw_1108, by decide, by decide, by decide +kernel⟩
theorem cw_L_174 : kw_v RL 174 yX12_knownIn cX12_knownIn 2 (some .boolean) 1 := ⟨tw_1817, tw_1818, tw_1819, tw_13, tw_1820, by decide, by decide, by decide +kernel⟩
theorem cw_L_175 : kw_v RL 175 yX11_where cX11_where 4 (some .int) 3 := ⟨tw_1109, tw_1110, tw_1111, tw_1, tw_1112, by decide, by decide, by decide +kernel⟩
theorem cw_L_178 : kw_v RL 178 yX12_where cX12_where 6 (some .int) 3 := ⟨tw_1821, tw_1822, tw_1823, tw_13, tw_1824, by decide, by decide, by decide +kernel⟩
theorem cw_L_179 : kw_v RL 179 yX11_counts cX11_counts 3 (some .int) 2 := ⟨tw_1117, tw_1118, tw_1119, tw_1, tw_1120, by decide, by decide, by decide +kernel⟩
theorem cw_L_182 : kw_v RL 182 yX12_counts cX12_counts 3 (some .int) 2 := ⟨tw_1825, tw_1826, tw_1827, tw_13, tw_1828, by decide, by decide, by decide +kernel⟩
theorem cw_L_183 : kw_v RL 183 yX11_council cX11_council 4 (some .int) 2 := ⟨tw_1129, tw_1130, tw_1131, tw_1, tw_1132, by decide, by decide, by decide +kernel⟩
theorem cw_L_186 : kw_v RL 186 yX12_council cX12_council 4 (some .int) 2 := ⟨tw_1833, tw_1834, tw_1835, tw_13, tw_1836, by decide, by decide, by decide +kernel⟩
theorem cw_L_187 : kw_v RL 187 yX11_check cX11_check 3 (some .int) 1 := ⟨tw_1133, tw_1134, tw_1135, tw_1, tw_1136, by decide, by decide, by decide +kernel⟩
theorem cw_L_190 : kw_v RL 190 yX12_check cX12_check 3 (some .int) 1 := ⟨tw_1837, tw_1838, tw_1839, tw_13, tw_1840, by decide, by decide, by decide +kernel⟩
theorem cw_L_191 : kw_v RL 191 yX11_count cX11_count 2 (some .int) 1 := ⟨tw_1150, tw_1151, tw_1152, tw_1, tw_1153, by decide, by decide, by decide +kernel⟩
theorem cw_L_194 : kw_v RL 194 yX12_count cX12_count 2 (some .int) 1 := ⟨tw_1845, tw_1846, tw_1847, tw_13, tw_1848, by decide, by decide, by decide +kernel⟩
def ST_now (Rel : Mm → Mm → Prop) : Prop := ∀ (μ ν : Mm) (a0 : Int32), Rel μ ν → ∃ (v : Bool) (u : Mm) (w : Mm), vs_now μ a0 = some (v, u) ∧ md_now ν a0 = some (v, w) ∧ Rel u w
def ST_book (Rel : Mm → Mm → Prop) : Prop := ∀ (μ ν : Mm) (a0 : Int32) (a1 : Int32) (a2 : Int32) (a3 : Int32), Rel μ ν → ∃ (v : Int32) (u : Mm) (w : Mm), vs_book μ a0 a1 a2 a3 = some (v, u) ∧ md_book ν a0 a1 a2 a3 = some (v, w) ∧ Rel u w
def ST_shelf (Rel : Mm → Mm → Prop) : Prop := ∀ (μ ν : Mm) (a0 : Int32) (a1 : Int32), Rel μ ν → ∃ (v : Bool) (u : Mm) (w : Mm), vs_shelf μ a0 a1 = some (v, u) ∧ md_shelf ν a0 a1 = some (v, w) ∧ Rel u w
def ST_stop (Rel : Mm → Mm → Prop) : Prop := ∀ (μ ν : Mm) (a0 : Int32) (a1 : Int32) (a2 : Int32), Rel μ ν → ∃ (v : Int32) (u : Mm) (w : Mm), vs_stop μ a0 a1 a2 = some (v, u) ∧ md_stop ν a0 a1 a2 = some (v, w) ∧ Rel u w
def ST_visit (Rel : Mm → Mm → Prop) : Prop := ∀ (μ ν : Mm) (a0 : Int32) (a1 : Int32) (a2 : Int32), Rel μ ν → ∃ (v : Bool) (u : Mm) (w : Mm), vs_visit μ a0 a1 a2 = some (v, u) ∧ md_visit ν a0 a1 a2 = some (v, w) ∧ Rel u w
def ST_reader (Rel : Mm → Mm → Prop) : Prop := ∀ (μ ν : Mm) (a0 : Int32) (a1 : Int32), Rel μ ν → ∃ (v : Int32) (u : Mm) (w : Mm), vs_reader μ a0 a1 = some (v, u) ∧ md_reader ν a0 a1 = some (v, w) ∧ Rel u w
def ST_taste (Rel : Mm → Mm → Prop) : Prop := ∀ (μ ν : Mm) (a0 : Int32) (a1 : Int32) (a2 : Int32), Rel μ ν → ∃ (v : Bool) (u : Mm) (w : Mm), vs_taste μ a0 a1 a2 = some (v, u) ∧ md_taste ν a0 a1 a2 = some (v, w) ∧ Rel u w
def ST_had (Rel : Mm → Mm → Prop) : Prop := ∀ (μ ν : Mm) (a0 : Int32) (a1 : Int32), Rel μ ν → ∃ (v : Bool) (u : Mm) (w : Mm), vs_had μ a0 a1 = some (v, u) ∧ md_had ν a0 a1 = some (v, w) ∧ Rel u w
def ST_feed (Rel : Mm → Mm → Prop) : Prop := ∀ (μ ν : Mm) (a0 : Int32) (a1 : Int32) (a2 : Int32) (a3 : Int32) (a4 : Int32), Rel μ ν → ∃ (v : Int32) (u : Mm) (w : Mm), vs_feed μ a0 a1 a2 a3 a4 = some (v, u) ∧ md_feed ν a0 a1 a2 a3 a4 = some (v, w) ∧ Rel u w
def ST_law (Rel : Mm → Mm → Prop) : Prop := ∀ (μ ν : Mm) (a0 : Int32), Rel μ ν → ∃ (v : Int32) (u : Mm) (w : Mm), vs_law μ a0 = some (v, u) ∧ md_law ν a0 = some (v, w) ∧ Rel u w
def ST_wants (Rel : Mm → Mm → Prop) : Prop := ∀ (μ ν : Mm) (a0 : Int32) (a1 : Int32) (a2 : Int32), Rel μ ν → ∃ (v : Int32) (u : Mm) (w : Mm), vs_wants μ a0 a1 a2 = some (v, u) ∧ md_wants ν a0 a1 a2 = some (v, w) ∧ Rel u w
def ST_visits (Rel : Mm → Mm → Prop) : Prop := ∀ (μ ν : Mm) (a0 : Int32) (a1 : Int32) (a2 : Int32), Rel μ ν → ∃ (v : Int32), vs_visits μ a0 a1 a2 = some v ∧ md_visits ν a0 a1 a2 = some v ∧ Rel μ ν
def ST_move (Rel : Mm → Mm → Prop) : Prop := ∀ (μ ν : Mm) (a0 : Int32) (a1 : Int32), Rel μ ν → ∃ (v : Bool) (u : Mm) (w : Mm), vs_move μ a0 a1 = some (v, u) ∧ md_move ν a0 a1 = some (v, w) ∧ Rel u w
def ST_lend (Rel : Mm → Mm → Prop) : Prop := ∀ (μ ν : Mm) (a0 : Int32) (a1 : Int32), Rel μ ν → ∃ (v : Int32) (u : Mm) (w : Mm), vs_lend μ a0 a1 = some (v, u) ∧ md_lend ν a0 a1 = some (v, w) ∧ Rel u w
def ST_back (Rel : Mm → Mm → Prop) : Prop := ∀ (μ ν : Mm) (a0 : Int32) (a1 : Int32) (a2 : Int32), Rel μ ν → ∃ (v : Int32) (u : Mm) (w : Mm), vs_back μ a0 a1 a2 = some (v, u) ∧ md_back ν a0 a1 a2 = some (v, w) ∧ Rel u w
def ST_lost (Rel : Mm → Mm → Prop) : Prop := ∀ (μ ν : Mm) (a0 : Int32), Rel μ ν → ∃ (v : Int32) (u : Mm) (w : Mm), vs_lost μ a0 = some (v, u) ∧ md_lost ν a0 = some (v, w) ∧ Rel u w
def ST_bookIs (Rel : Mm → Mm → Prop) : Prop := ∀ (μ ν : Mm) (a0 : Int32) (a1 : Int32), Rel μ ν → ∃ (v : Int32), vs_bookIs μ a0 a1 = some v ∧ md_bookIs ν a0 a1 = some v ∧ Rel μ ν
def ST_readerIs (Rel : Mm → Mm → Prop) : Prop := ∀ (μ ν : Mm) (a0 : Int32) (a1 : Int32), Rel μ ν → ∃ (v : Int32), vs_readerIs μ a0 a1 = some v ∧ md_readerIs ν a0 a1 = some v ∧ Rel μ ν
def ST_pays (Rel : Mm → Mm → Prop) : Prop := ∀ (μ ν : Mm) (a0 : Int32) (a1 : Int32), Rel μ ν → ∃ (v : Int32) (u : Mm) (w : Mm), vs_pays μ a0 a1 = some (v, u) ∧ md_pays ν a0 a1 = some (v, w) ∧ Rel u w
def ST_ask (Rel : Mm → Mm → Prop) : Prop := ∀ (μ ν : Mm) (a0 : Int32) (a1 : Int32) (a2 : Int32), Rel μ ν → ∃ (v : Bool) (u : Mm) (w : Mm), vs_ask μ a0 a1 a2 = some (v, u) ∧ md_ask ν a0 a1 a2 = some (v, w) ∧ Rel u w
def ST_unask (Rel : Mm → Mm → Prop) : Prop := ∀ (μ ν : Mm) (a0 : Int32) (a1 : Int32), Rel μ ν → ∃ (v : Bool) (u : Mm) (w : Mm), vs_unask μ a0 a1 = some (v, u) ∧ md_unask ν a0 a1 = some (v, w) ∧ Rel u w
def ST_aboard (Rel : Mm → Mm → Prop) : Prop := ∀ (μ ν : Mm) (a0 : Int32) (a1 : Int32), Rel μ ν → ∃ (v : Int64), vs_aboard μ a0 a1 = some v ∧ md_aboard ν a0 a1 = some v ∧ Rel μ ν
def ST_promise (Rel : Mm → Mm → Prop) : Prop := ∀ (μ ν : Mm) (a0 : Int32) (a1 : Int32), Rel μ ν → ∃ (v : Int32), vs_promise μ a0 a1 = some v ∧ md_promise ν a0 a1 = some v ∧ Rel μ ν
def ST_whyNot (Rel : Mm → Mm → Prop) : Prop := ∀ (μ ν : Mm) (a0 : Int32) (a1 : Int32), Rel μ ν → ∃ (v : Int32), vs_whyNot μ a0 a1 = some v ∧ md_whyNot ν a0 a1 = some v ∧ Rel μ ν
def ST_ring (Rel : Mm → Mm → Prop) : Prop := ∀ (μ ν : Mm) (a0 : Int32), Rel μ ν → ∃ (v : Int32) (u : Mm) (w : Mm), vs_ring μ a0 = some (v, u) ∧ md_ring ν a0 = some (v, w) ∧ Rel u w
def ST_load (Rel : Mm → Mm → Prop) : Prop := ∀ (μ ν : Mm) (a0 : Int32) (a1 : Int32) (a2 : Int32) (a3 : Int32), Rel μ ν → ∃ (v : Int64) (u : Mm) (w : Mm), vs_load μ a0 a1 a2 a3 = some (v, u) ∧ md_load ν a0 a1 a2 a3 = some (v, w) ∧ Rel u w
def ST_served (Rel : Mm → Mm → Prop) : Prop := ∀ (μ ν : Mm) (a0 : Int32) (a1 : Int64) (a2 : Int32), Rel μ ν → ∃ (v : Int32) (u : Mm) (w : Mm), vs_served μ a0 a1 a2 = some (v, u) ∧ md_served ν a0 a1 a2 = some (v, w) ∧ Rel u w
def ST_least (Rel : Mm → Mm → Prop) : Prop := ∀ (μ ν : Mm) (a0 : Int32), Rel μ ν → ∃ (v : Int32), vs_least μ a0 = some v ∧ md_least ν a0 = some v ∧ Rel μ ν
def ST_dull (Rel : Mm → Mm → Prop) : Prop := ∀ (μ ν : Mm) (a0 : Int32) (a1 : Int32), Rel μ ν → ∃ (v : Int64) (u : Mm) (w : Mm), vs_dull μ a0 a1 = some (v, u) ∧ md_dull ν a0 a1 = some (v, w) ∧ Rel u w
def ST_onward (Rel : Mm → Mm → Prop) : Prop := ∀ (μ ν : Mm) (a0 : Int32) (a1 : Int32), Rel μ ν → ∃ (v : Int32) (u : Mm) (w : Mm), vs_onward μ a0 a1 = some (v, u) ∧ md_onward ν a0 a1 = some (v, w) ∧ Rel u w
def ST_different (Rel : Mm → Mm → Prop) : Prop := ∀ (μ ν : Mm) (a0 : Int32) (a1 : Int32), Rel μ ν → ∃ (v : Int32), vs_different μ a0 a1 = some v ∧ md_different ν a0 a1 = some v ∧ Rel μ ν
def ST_pace (Rel : Mm → Mm → Prop) : Prop := ∀ (μ ν : Mm) (a0 : Int32), Rel μ ν → ∃ (v : Bool) (u : Mm) (w : Mm), vs_pace μ a0 = some (v, u) ∧ md_pace ν a0 = some (v, w) ∧ Rel u w
def ST_round (Rel : Mm → Mm → Prop) : Prop := ∀ (μ ν : Mm) (a0 : Int32) (a1 : Int32) (a2 : Int32), Rel μ ν → ∃ (v : Int32) (u : Mm) (w : Mm), vs_round μ a0 a1 a2 = some (v, u) ∧ md_round ν a0 a1 a2 = some (v, w) ∧ Rel u w
def ST_went (Rel : Mm → Mm → Prop) : Prop := ∀ (μ ν : Mm) (a0 : Int32) (a1 : Int32), Rel μ ν → ∃ (v : Int32) (u : Mm) (w : Mm), vs_went μ a0 a1 = some (v, u) ∧ md_went ν a0 a1 = some (v, w) ∧ Rel u w
def ST_lostDay (Rel : Mm → Mm → Prop) : Prop := ∀ (μ ν : Mm) (a0 : Int32) (a1 : Int32) (a2 : Int32) (a3 : Int32), Rel μ ν → ∃ (v : Int32) (u : Mm) (w : Mm), vs_lostDay μ a0 a1 a2 a3 = some (v, u) ∧ md_lostDay ν a0 a1 a2 a3 = some (v, w) ∧ Rel u w
def ST_put (Rel : Mm → Mm → Prop) : Prop := ∀ (μ ν : Mm) (a0 : Int32) (a1 : Int32), Rel μ ν → ∃ (v : Int32), vs_put μ a0 a1 = some v ∧ md_put ν a0 a1 = some v ∧ Rel μ ν
def ST_knownIn (Rel : Mm → Mm → Prop) : Prop := ∀ (μ ν : Mm) (a0 : Int32), Rel μ ν → ∃ (v : Bool) (u : Mm) (w : Mm), vs_knownIn μ a0 = some (v, u) ∧ md_knownIn ν a0 = some (v, w) ∧ Rel u w
def ST_where (Rel : Mm → Mm → Prop) : Prop := ∀ (μ ν : Mm) (a0 : Int32) (a1 : Int32) (a2 : Int32), Rel μ ν → ∃ (v : Int32), vs_where μ a0 a1 a2 = some v ∧ md_where ν a0 a1 a2 = some v ∧ Rel μ ν
def ST_counts (Rel : Mm → Mm → Prop) : Prop := ∀ (μ ν : Mm) (a0 : Int32) (a1 : Int32), Rel μ ν → ∃ (v : Int32), vs_counts μ a0 a1 = some v ∧ md_counts ν a0 a1 = some v ∧ Rel μ ν
def ST_council (Rel : Mm → Mm → Prop) : Prop := ∀ (μ ν : Mm) (a0 : Int32) (a1 : Int32), Rel μ ν → ∃ (v : Int32), vs_council μ a0 a1 = some v ∧ md_council ν a0 a1 = some v ∧ Rel μ ν
def ST_check (Rel : Mm → Mm → Prop) : Prop := ∀ (μ ν : Mm) (a0 : Int32), Rel μ ν → ∃ (v : Int32) (u : Mm) (w : Mm), vs_check μ a0 = some (v, u) ∧ md_check ν a0 = some (v, w) ∧ Rel u w
def ST_count (Rel : Mm → Mm → Prop) : Prop := ∀ (μ ν : Mm) (a0 : Int32), Rel μ ν → ∃ (v : Int32), vs_count μ a0 = some v ∧ md_count ν a0 = some v ∧ Rel μ ν
section
variable {p : Program} {l : Launch} {e : Env} {s : State} {m : MethodId} {below : List Frame} {meth : Method} {c : Code} {H : Heap} {locs : List Loc} {cells slots : Nat} {Q : State → Prop} {ls : Array Slot} {D : va_G} {cs : ClassId × ClassId × ClassId} {α β : Nat → Nat} {Rel : Mm → Mm → Prop} {b L i : Nat} {xs : Nat → Int32} {μ ν : Mm}
set_option maxHeartbeats 4000000 in
set_option maxRecDepth 100000 in
theorem lc_0 (hC : Cx (gx D cs α) RL code 4 p s m #[Value.ref b] c) (hX : va_X b L xs s s.heap) (hbl : b < s.heap.size) (hi : 6 * i + 6 ≤ L) (hL : L ≤ 3072) (hs : ST_now Rel) (hRel : Rel μ ν) (hcs : cells + 1 ≤ 600000 ∧ slots + 5 ≤ 7302250) (hW : wA (gx D cs α) (wx (gx D cs α) μ ++ wm (gx D cs β) ν) (fun q => s.heap.size ≤ q) s.heap H locs) (hl : lv_has ls 4 [(0, .ref b), (1, .ref (ad (gx D cs α) 0)), (2, .ref (ad (gx D cs β) 0)), (3, .int (nI (6 * i)))])
    (kk : ∀ {H : Heap} {locs : List Loc} {ls : Array Slot} (z : Nat → Nat) (μ ν : Mm), z 0 = ad (gx D cs α) 0 → Rel μ ν → wA (gx D cs α) (wx (gx D cs z) μ ++ wm (gx D cs β) ν) (fun q => s.heap.size ≤ q) s.heap H locs → lv_has ls 4 [(0, .ref b), (1, .ref (ad (gx D cs α) 0)), (2, .ref (ad (gx D cs β) 0)), (3, .int (nI (6 * i)))] → W p l e room_1 s m #[Value.ref b] below meth c H locs (cells + 1) (slots + 5) Q (F0 m 1751 ls [])) : W p l e room_1 s m #[Value.ref b] below meth c H locs cells slots Q (F0 m 216 ls []) := by
  obtain ⟨hx, hb, hml, hown, hts, hK, hN⟩ := id hC
  refine lv_aload_n hx hb dL_law_216 rfl (lv_at hl 1 rfl) ?_
  refine lv_aload_n hx hb dL_law_217 rfl (lv_at hl 0 rfl) ?_
  refine lv_iload_n hx hb dL_law_218 rfl (lv_at hl 3 rfl) ?_
  refine lv_iconst (v := 1) hx hb dL_law_219 (by decide) ?_
  refine lv_iadd hx hb dL_law_220 ?_
  refine kl_ld (k := 1) hC hX hbl hi hL hW (by decide) (by decide) dL_law_221 ?_
  obtain ⟨v, u, w, h1, h2, hR⟩ := hs μ ν (xs (6 * i + 1)) hRel
  refine kd_i hW (kd_run hC hW hl.1 (t_vs_now h1) ⟨rfl, rfl⟩ cw_L_13 (wx_0 (gx D cs α) μ) rfl rfl rfl (Nat.le_of_ble_eq_true rfl) dL_law_222 ⟨Nat.le_of_ble_eq_true rfl, Nat.le_of_ble_eq_true rfl⟩ ⟨Nat.le_of_succ_le hcs.1, Nat.le_trans (Nat.le_add_right slots 5) hcs.2⟩) (fun H locs hW => ?_)
  have hW2 : wA (gx D cs β) (wm (gx D cs β) ν ++ wx (gx D cs α) u) (fun q => s.heap.size ≤ q) s.heap H locs := kd_swap hW
  refine lv_aload_n hx hb dL_law_225 rfl (lv_at hl 2 rfl) ?_
  refine lv_aload_n hx hb dL_law_226 rfl (lv_at hl 0 rfl) ?_
  refine lv_iload_n hx hb dL_law_227 rfl (lv_at hl 3 rfl) ?_
  refine lv_iconst (v := 1) hx hb dL_law_228 (by decide) ?_
  refine lv_iadd hx hb dL_law_229 ?_
  refine kl_ld (k := 1) hC hX hbl hi hL hW (by decide) (by decide) dL_law_230 ?_
  have hC2 : Cx (gx D cs β) RL code 4 p s m #[Value.ref b] c := hC
  refine kd_i hW2 (kd_run hC2 hW2 hl.1 (t_md_now h2) ⟨rfl, rfl⟩ cw_L_17 (wm_0 (gx D cs β) ν) rfl rfl rfl (Nat.le_of_ble_eq_true rfl) dL_law_231 ⟨Nat.le_of_ble_eq_true rfl, Nat.le_of_ble_eq_true rfl⟩ ⟨Nat.le_of_succ_le hcs.1, Nat.le_trans (Nat.le_add_right slots 5) hcs.2⟩) (fun H locs hW => ?_)
  refine lv_icmp_eq (tgt := 1751) hx hb dL_law_234 (by decide) (fun _ => ?_) (fun hc => absurd rfl hc)
  refine W.widen (k := cells + 1) (n := slots + 5) (Nat.le_succ _) (Nat.le_add_right _ _) ?_
  exact kk α u w rfl hR (kd_swap hW) hl
set_option maxHeartbeats 4000000 in
set_option maxRecDepth 100000 in
theorem lc_1 (hC : Cx (gx D cs α) RL code 4 p s m #[Value.ref b] c) (hX : va_X b L xs s s.heap) (hbl : b < s.heap.size) (hi : 6 * i + 6 ≤ L) (hL : L ≤ 3072) (hs : ST_book Rel) (hRel : Rel μ ν) (hcs : cells + 1 ≤ 600000 ∧ slots + 5 ≤ 7302250) (hW : wA (gx D cs α) (wx (gx D cs α) μ ++ wm (gx D cs β) ν) (fun q => s.heap.size ≤ q) s.heap H locs) (hl : lv_has ls 4 [(0, .ref b), (1, .ref (ad (gx D cs α) 0)), (2, .ref (ad (gx D cs β) 0)), (3, .int (nI (6 * i)))])
    (kk : ∀ {H : Heap} {locs : List Loc} {ls : Array Slot} (z : Nat → Nat) (μ ν : Mm), z 0 = ad (gx D cs α) 0 → Rel μ ν → wA (gx D cs α) (wx (gx D cs z) μ ++ wm (gx D cs β) ν) (fun q => s.heap.size ≤ q) s.heap H locs → lv_has ls 4 [(0, .ref b), (1, .ref (ad (gx D cs α) 0)), (2, .ref (ad (gx D cs β) 0)), (3, .int (nI (6 * i)))] → W p l e room_1 s m #[Value.ref b] below meth c H locs (cells + 1) (slots + 5) Q (F0 m 1751 ls [])) : W p l e room_1 s m #[Value.ref b] below meth c H locs cells slots Q (F0 m 239 ls []) := by
  obtain ⟨hx, hb, hml, hown, hts, hK, hN⟩ := id hC
  refine lv_aload_n hx hb dL_law_239 rfl (lv_at hl 1 rfl) ?_
  refine lv_aload_n hx hb dL_law_240 rfl (lv_at hl 0 rfl) ?_
  refine lv_iload_n hx hb dL_law_241 rfl (lv_at hl 3 rfl) ?_
  refine lv_iconst (v := 1) hx hb dL_law_242 (by decide) ?_
  refine lv_iadd hx hb dL_law_243 ?_
  refine kl_ld (k := 1) hC hX hbl hi hL hW (by decide) (by decide) dL_law_244 ?_
  refine lv_aload_n hx hb dL_law_245 rfl (lv_at hl 0 rfl) ?_
  refine lv_iload_n hx hb dL_law_246 rfl (lv_at hl 3 rfl) ?_
  refine lv_iconst (v := 2) hx hb dL_law_247 (by decide) ?_
  refine lv_iadd hx hb dL_law_248 ?_
  refine kl_ld (k := 2) hC hX hbl hi hL hW (by decide) (by decide) dL_law_249 ?_
  refine lv_aload_n hx hb dL_law_250 rfl (lv_at hl 0 rfl) ?_
  refine lv_iload_n hx hb dL_law_251 rfl (lv_at hl 3 rfl) ?_
  refine lv_iconst (v := 3) hx hb dL_law_252 (by decide) ?_
  refine lv_iadd hx hb dL_law_253 ?_
  refine kl_ld (k := 3) hC hX hbl hi hL hW (by decide) (by decide) dL_law_254 ?_
  refine lv_aload_n hx hb dL_law_255 rfl (lv_at hl 0 rfl) ?_
  refine lv_iload_n hx hb dL_law_256 rfl (lv_at hl 3 rfl) ?_
  refine lv_iconst (v := 4) hx hb dL_law_257 (by decide) ?_
  refine lv_iadd hx hb dL_law_258 ?_
  refine kl_ld (k := 4) hC hX hbl hi hL hW (by decide) (by decide) dL_law_259 ?_
  obtain ⟨v, u, w, h1, h2, hR⟩ := hs μ ν (xs (6 * i + 1)) (xs (6 * i + 2)) (xs (6 * i + 3)) (xs (6 * i + 4)) hRel
  refine kd_i hW (kd_run hC hW hl.1 (t_vs_book h1) ⟨rfl, rfl⟩ cw_L_18 (wx_0 (gx D cs α) μ) rfl rfl rfl (Nat.le_of_ble_eq_true rfl) dL_law_260 ⟨Nat.le_of_ble_eq_true rfl, Nat.le_of_ble_eq_true rfl⟩ ⟨Nat.le_of_succ_le hcs.1, Nat.le_trans (Nat.le_add_right slots 5) hcs.2⟩) (fun H locs hW => ?_)
  have hW2 : wA (gx D cs β) (wm (gx D cs β) ν ++ wx (gx D cs α) u) (fun q => s.heap.size ≤ q) s.heap H locs := kd_swap hW
  refine lv_aload_n hx hb dL_law_263 rfl (lv_at hl 2 rfl) ?_
  refine lv_aload_n hx hb dL_law_264 rfl (lv_at hl 0 rfl) ?_
  refine lv_iload_n hx hb dL_law_265 rfl (lv_at hl 3 rfl) ?_
  refine lv_iconst (v := 1) hx hb dL_law_266 (by decide) ?_
  refine lv_iadd hx hb dL_law_267 ?_
  refine kl_ld (k := 1) hC hX hbl hi hL hW (by decide) (by decide) dL_law_268 ?_
  refine lv_aload_n hx hb dL_law_269 rfl (lv_at hl 0 rfl) ?_
  refine lv_iload_n hx hb dL_law_270 rfl (lv_at hl 3 rfl) ?_
  refine lv_iconst (v := 2) hx hb dL_law_271 (by decide) ?_
  refine lv_iadd hx hb dL_law_272 ?_
  refine kl_ld (k := 2) hC hX hbl hi hL hW (by decide) (by decide) dL_law_273 ?_
  refine lv_aload_n hx hb dL_law_274 rfl (lv_at hl 0 rfl) ?_
  refine lv_iload_n hx hb dL_law_275 rfl (lv_at hl 3 rfl) ?_
  refine lv_iconst (v := 3) hx hb dL_law_276 (by decide) ?_
  refine lv_iadd hx hb dL_law_277 ?_
  refine kl_ld (k := 3) hC hX hbl hi hL hW (by decide) (by decide) dL_law_278 ?_
  refine lv_aload_n hx hb dL_law_279 rfl (lv_at hl 0 rfl) ?_
  refine lv_iload_n hx hb dL_law_280 rfl (lv_at hl 3 rfl) ?_
  refine lv_iconst (v := 4) hx hb dL_law_281 (by decide) ?_
  refine lv_iadd hx hb dL_law_282 ?_
  refine kl_ld (k := 4) hC hX hbl hi hL hW (by decide) (by decide) dL_law_283 ?_
  have hC2 : Cx (gx D cs β) RL code 4 p s m #[Value.ref b] c := hC
  refine kd_i hW2 (kd_run hC2 hW2 hl.1 (t_md_book h2) ⟨rfl, rfl⟩ cw_L_22 (wm_0 (gx D cs β) ν) rfl rfl rfl (Nat.le_of_ble_eq_true rfl) dL_law_284 ⟨Nat.le_of_ble_eq_true rfl, Nat.le_of_ble_eq_true rfl⟩ ⟨Nat.le_of_succ_le hcs.1, Nat.le_trans (Nat.le_add_right slots 5) hcs.2⟩) (fun H locs hW => ?_)
  refine lv_icmp_eq (tgt := 1751) hx hb dL_law_287 (by decide) (fun _ => ?_) (fun hc => absurd rfl hc)
  refine W.widen (k := cells + 1) (n := slots + 5) (Nat.le_succ _) (Nat.le_add_right _ _) ?_
  exact kk α u w rfl hR (kd_swap hW) hl
set_option maxHeartbeats 4000000 in
set_option maxRecDepth 100000 in
theorem lc_2 (hC : Cx (gx D cs α) RL code 4 p s m #[Value.ref b] c) (hX : va_X b L xs s s.heap) (hbl : b < s.heap.size) (hi : 6 * i + 6 ≤ L) (hL : L ≤ 3072) (hs : ST_shelf Rel) (hRel : Rel μ ν) (hcs : cells + 1 ≤ 600000 ∧ slots + 5 ≤ 7302250) (hW : wA (gx D cs α) (wx (gx D cs α) μ ++ wm (gx D cs β) ν) (fun q => s.heap.size ≤ q) s.heap H locs) (hl : lv_has ls 4 [(0, .ref b), (1, .ref (ad (gx D cs α) 0)), (2, .ref (ad (gx D cs β) 0)), (3, .int (nI (6 * i)))])
    (kk : ∀ {H : Heap} {locs : List Loc} {ls : Array Slot} (z : Nat → Nat) (μ ν : Mm), z 0 = ad (gx D cs α) 0 → Rel μ ν → wA (gx D cs α) (wx (gx D cs z) μ ++ wm (gx D cs β) ν) (fun q => s.heap.size ≤ q) s.heap H locs → lv_has ls 4 [(0, .ref b), (1, .ref (ad (gx D cs α) 0)), (2, .ref (ad (gx D cs β) 0)), (3, .int (nI (6 * i)))] → W p l e room_1 s m #[Value.ref b] below meth c H locs (cells + 1) (slots + 5) Q (F0 m 1751 ls [])) : W p l e room_1 s m #[Value.ref b] below meth c H locs cells slots Q (F0 m 292 ls []) := by
  obtain ⟨hx, hb, hml, hown, hts, hK, hN⟩ := id hC
  refine lv_aload_n hx hb dL_law_292 rfl (lv_at hl 1 rfl) ?_
  refine lv_aload_n hx hb dL_law_293 rfl (lv_at hl 0 rfl) ?_
  refine lv_iload_n hx hb dL_law_294 rfl (lv_at hl 3 rfl) ?_
  refine lv_iconst (v := 1) hx hb dL_law_295 (by decide) ?_
  refine lv_iadd hx hb dL_law_296 ?_
  refine kl_ld (k := 1) hC hX hbl hi hL hW (by decide) (by decide) dL_law_297 ?_
  refine lv_aload_n hx hb dL_law_298 rfl (lv_at hl 0 rfl) ?_
  refine lv_iload_n hx hb dL_law_299 rfl (lv_at hl 3 rfl) ?_
  refine lv_iconst (v := 2) hx hb dL_law_300 (by decide) ?_
  refine lv_iadd hx hb dL_law_301 ?_
  refine kl_ld (k := 2) hC hX hbl hi hL hW (by decide) (by decide) dL_law_302 ?_
  obtain ⟨v, u, w, h1, h2, hR⟩ := hs μ ν (xs (6 * i + 1)) (xs (6 * i + 2)) hRel
  refine kd_i hW (kd_run hC hW hl.1 (t_vs_shelf h1) ⟨rfl, rfl⟩ cw_L_23 (wx_0 (gx D cs α) μ) rfl rfl rfl (Nat.le_of_ble_eq_true rfl) dL_law_303 ⟨Nat.le_of_ble_eq_true rfl, Nat.le_of_ble_eq_true rfl⟩ ⟨Nat.le_of_succ_le hcs.1, Nat.le_trans (Nat.le_add_right slots 5) hcs.2⟩) (fun H locs hW => ?_)
  have hW2 : wA (gx D cs β) (wm (gx D cs β) ν ++ wx (gx D cs α) u) (fun q => s.heap.size ≤ q) s.heap H locs := kd_swap hW
  refine lv_aload_n hx hb dL_law_306 rfl (lv_at hl 2 rfl) ?_
  refine lv_aload_n hx hb dL_law_307 rfl (lv_at hl 0 rfl) ?_
  refine lv_iload_n hx hb dL_law_308 rfl (lv_at hl 3 rfl) ?_
  refine lv_iconst (v := 1) hx hb dL_law_309 (by decide) ?_
  refine lv_iadd hx hb dL_law_310 ?_
  refine kl_ld (k := 1) hC hX hbl hi hL hW (by decide) (by decide) dL_law_311 ?_
  refine lv_aload_n hx hb dL_law_312 rfl (lv_at hl 0 rfl) ?_
  refine lv_iload_n hx hb dL_law_313 rfl (lv_at hl 3 rfl) ?_
  refine lv_iconst (v := 2) hx hb dL_law_314 (by decide) ?_
  refine lv_iadd hx hb dL_law_315 ?_
  refine kl_ld (k := 2) hC hX hbl hi hL hW (by decide) (by decide) dL_law_316 ?_
  have hC2 : Cx (gx D cs β) RL code 4 p s m #[Value.ref b] c := hC
  refine kd_i hW2 (kd_run hC2 hW2 hl.1 (t_md_shelf h2) ⟨rfl, rfl⟩ cw_L_27 (wm_0 (gx D cs β) ν) rfl rfl rfl (Nat.le_of_ble_eq_true rfl) dL_law_317 ⟨Nat.le_of_ble_eq_true rfl, Nat.le_of_ble_eq_true rfl⟩ ⟨Nat.le_of_succ_le hcs.1, Nat.le_trans (Nat.le_add_right slots 5) hcs.2⟩) (fun H locs hW => ?_)
  refine lv_icmp_eq (tgt := 1751) hx hb dL_law_320 (by decide) (fun _ => ?_) (fun hc => absurd rfl hc)
  refine W.widen (k := cells + 1) (n := slots + 5) (Nat.le_succ _) (Nat.le_add_right _ _) ?_
  exact kk α u w rfl hR (kd_swap hW) hl
set_option maxHeartbeats 4000000 in
set_option maxRecDepth 100000 in
theorem lc_3 (hC : Cx (gx D cs α) RL code 4 p s m #[Value.ref b] c) (hX : va_X b L xs s s.heap) (hbl : b < s.heap.size) (hi : 6 * i + 6 ≤ L) (hL : L ≤ 3072) (hs : ST_stop Rel) (hRel : Rel μ ν) (hcs : cells + 1 ≤ 600000 ∧ slots + 5 ≤ 7302250) (hW : wA (gx D cs α) (wx (gx D cs α) μ ++ wm (gx D cs β) ν) (fun q => s.heap.size ≤ q) s.heap H locs) (hl : lv_has ls 4 [(0, .ref b), (1, .ref (ad (gx D cs α) 0)), (2, .ref (ad (gx D cs β) 0)), (3, .int (nI (6 * i)))])
    (kk : ∀ {H : Heap} {locs : List Loc} {ls : Array Slot} (z : Nat → Nat) (μ ν : Mm), z 0 = ad (gx D cs α) 0 → Rel μ ν → wA (gx D cs α) (wx (gx D cs z) μ ++ wm (gx D cs β) ν) (fun q => s.heap.size ≤ q) s.heap H locs → lv_has ls 4 [(0, .ref b), (1, .ref (ad (gx D cs α) 0)), (2, .ref (ad (gx D cs β) 0)), (3, .int (nI (6 * i)))] → W p l e room_1 s m #[Value.ref b] below meth c H locs (cells + 1) (slots + 5) Q (F0 m 1751 ls [])) : W p l e room_1 s m #[Value.ref b] below meth c H locs cells slots Q (F0 m 325 ls []) := by
  obtain ⟨hx, hb, hml, hown, hts, hK, hN⟩ := id hC
  refine lv_aload_n hx hb dL_law_325 rfl (lv_at hl 1 rfl) ?_
  refine lv_aload_n hx hb dL_law_326 rfl (lv_at hl 0 rfl) ?_
  refine lv_iload_n hx hb dL_law_327 rfl (lv_at hl 3 rfl) ?_
  refine lv_iconst (v := 1) hx hb dL_law_328 (by decide) ?_
  refine lv_iadd hx hb dL_law_329 ?_
  refine kl_ld (k := 1) hC hX hbl hi hL hW (by decide) (by decide) dL_law_330 ?_
  refine lv_aload_n hx hb dL_law_331 rfl (lv_at hl 0 rfl) ?_
  refine lv_iload_n hx hb dL_law_332 rfl (lv_at hl 3 rfl) ?_
  refine lv_iconst (v := 2) hx hb dL_law_333 (by decide) ?_
  refine lv_iadd hx hb dL_law_334 ?_
  refine kl_ld (k := 2) hC hX hbl hi hL hW (by decide) (by decide) dL_law_335 ?_
  refine lv_aload_n hx hb dL_law_336 rfl (lv_at hl 0 rfl) ?_
  refine lv_iload_n hx hb dL_law_337 rfl (lv_at hl 3 rfl) ?_
  refine lv_iconst (v := 3) hx hb dL_law_338 (by decide) ?_
  refine lv_iadd hx hb dL_law_339 ?_
  refine kl_ld (k := 3) hC hX hbl hi hL hW (by decide) (by decide) dL_law_340 ?_
  obtain ⟨v, u, w, h1, h2, hR⟩ := hs μ ν (xs (6 * i + 1)) (xs (6 * i + 2)) (xs (6 * i + 3)) hRel
  refine kd_i hW (kd_run hC hW hl.1 (t_vs_stop h1) ⟨rfl, rfl⟩ cw_L_28 (wx_0 (gx D cs α) μ) rfl rfl rfl (Nat.le_of_ble_eq_true rfl) dL_law_341 ⟨Nat.le_of_ble_eq_true rfl, Nat.le_of_ble_eq_true rfl⟩ ⟨Nat.le_of_succ_le hcs.1, Nat.le_trans (Nat.le_add_right slots 5) hcs.2⟩) (fun H locs hW => ?_)
  have hW2 : wA (gx D cs β) (wm (gx D cs β) ν ++ wx (gx D cs α) u) (fun q => s.heap.size ≤ q) s.heap H locs := kd_swap hW
  refine lv_aload_n hx hb dL_law_344 rfl (lv_at hl 2 rfl) ?_
  refine lv_aload_n hx hb dL_law_345 rfl (lv_at hl 0 rfl) ?_
  refine lv_iload_n hx hb dL_law_346 rfl (lv_at hl 3 rfl) ?_
  refine lv_iconst (v := 1) hx hb dL_law_347 (by decide) ?_
  refine lv_iadd hx hb dL_law_348 ?_
  refine kl_ld (k := 1) hC hX hbl hi hL hW (by decide) (by decide) dL_law_349 ?_
  refine lv_aload_n hx hb dL_law_350 rfl (lv_at hl 0 rfl) ?_
  refine lv_iload_n hx hb dL_law_351 rfl (lv_at hl 3 rfl) ?_
  refine lv_iconst (v := 2) hx hb dL_law_352 (by decide) ?_
  refine lv_iadd hx hb dL_law_353 ?_
  refine kl_ld (k := 2) hC hX hbl hi hL hW (by decide) (by decide) dL_law_354 ?_
  refine lv_aload_n hx hb dL_law_355 rfl (lv_at hl 0 rfl) ?_
  refine lv_iload_n hx hb dL_law_356 rfl (lv_at hl 3 rfl) ?_
  refine lv_iconst (v := 3) hx hb dL_law_357 (by decide) ?_
  refine lv_iadd hx hb dL_law_358 ?_
  refine kl_ld (k := 3) hC hX hbl hi hL hW (by decide) (by decide) dL_law_359 ?_
  have hC2 : Cx (gx D cs β) RL code 4 p s m #[Value.ref b] c := hC
  refine kd_i hW2 (kd_run hC2 hW2 hl.1 (t_md_stop h2) ⟨rfl, rfl⟩ cw_L_32 (wm_0 (gx D cs β) ν) rfl rfl rfl (Nat.le_of_ble_eq_true rfl) dL_law_360 ⟨Nat.le_of_ble_eq_true rfl, Nat.le_of_ble_eq_true rfl⟩ ⟨Nat.le_of_succ_le hcs.1, Nat.le_trans (Nat.le_add_right slots 5) hcs.2⟩) (fun H locs hW => ?_)
  refine lv_icmp_eq (tgt := 1751) hx hb dL_law_363 (by decide) (fun _ => ?_) (fun hc => absurd rfl hc)
  refine W.widen (k := cells + 1) (n := slots + 5) (Nat.le_succ _) (Nat.le_add_right _ _) ?_
  exact kk α u w rfl hR (kd_swap hW) hl
set_option maxHeartbeats 4000000 in
set_option maxRecDepth 100000 in
theorem lc_4 (hC : Cx (gx D cs α) RL code 4 p s m #[Value.ref b] c) (hX : va_X b L xs s s.heap) (hbl : b < s.heap.size) (hi : 6 * i + 6 ≤ L) (hL : L ≤ 3072) (hs : ST_visit Rel) (hRel : Rel μ ν) (hcs : cells + 1 ≤ 600000 ∧ slots + 5 ≤ 7302250) (hW : wA (gx D cs α) (wx (gx D cs α) μ ++ wm (gx D cs β) ν) (fun q => s.heap.size ≤ q) s.heap H locs) (hl : lv_has ls 4 [(0, .ref b), (1, .ref (ad (gx D cs α) 0)), (2, .ref (ad (gx D cs β) 0)), (3, .int (nI (6 * i)))])
    (kk : ∀ {H : Heap} {locs : List Loc} {ls : Array Slot} (z : Nat → Nat) (μ ν : Mm), z 0 = ad (gx D cs α) 0 → Rel μ ν → wA (gx D cs α) (wx (gx D cs z) μ ++ wm (gx D cs β) ν) (fun q => s.heap.size ≤ q) s.heap H locs → lv_has ls 4 [(0, .ref b), (1, .ref (ad (gx D cs α) 0)), (2, .ref (ad (gx D cs β) 0)), (3, .int (nI (6 * i)))] → W p l e room_1 s m #[Value.ref b] below meth c H locs (cells + 1) (slots + 5) Q (F0 m 1751 ls [])) : W p l e room_1 s m #[Value.ref b] below meth c H locs cells slots Q (F0 m 368 ls []) := by
  obtain ⟨hx, hb, hml, hown, hts, hK, hN⟩ := id hC
  refine lv_aload_n hx hb dL_law_368 rfl (lv_at hl 1 rfl) ?_
  refine lv_aload_n hx hb dL_law_369 rfl (lv_at hl 0 rfl) ?_
  refine lv_iload_n hx hb dL_law_370 rfl (lv_at hl 3 rfl) ?_
  refine lv_iconst (v := 1) hx hb dL_law_371 (by decide) ?_
  refine lv_iadd hx hb dL_law_372 ?_
  refine kl_ld (k := 1) hC hX hbl hi hL hW (by decide) (by decide) dL_law_373 ?_
  refine lv_aload_n hx hb dL_law_374 rfl (lv_at hl 0 rfl) ?_
  refine lv_iload_n hx hb dL_law_375 rfl (lv_at hl 3 rfl) ?_
  refine lv_iconst (v := 2) hx hb dL_law_376 (by decide) ?_
  refine lv_iadd hx hb dL_law_377 ?_
  refine kl_ld (k := 2) hC hX hbl hi hL hW (by decide) (by decide) dL_law_378 ?_
  refine lv_aload_n hx hb dL_law_379 rfl (lv_at hl 0 rfl) ?_
  refine lv_iload_n hx hb dL_law_380 rfl (lv_at hl 3 rfl) ?_
  refine lv_iconst (v := 3) hx hb dL_law_381 (by decide) ?_
  refine lv_iadd hx hb dL_law_382 ?_
  refine kl_ld (k := 3) hC hX hbl hi hL hW (by decide) (by decide) dL_law_383 ?_
  obtain ⟨v, u, w, h1, h2, hR⟩ := hs μ ν (xs (6 * i + 1)) (xs (6 * i + 2)) (xs (6 * i + 3)) hRel
  refine kd_i hW (kd_run hC hW hl.1 (t_vs_visit h1) ⟨rfl, rfl⟩ cw_L_33 (wx_0 (gx D cs α) μ) rfl rfl rfl (Nat.le_of_ble_eq_true rfl) dL_law_384 ⟨Nat.le_of_ble_eq_true rfl, Nat.le_of_ble_eq_true rfl⟩ ⟨Nat.le_of_succ_le hcs.1, Nat.le_trans (Nat.le_add_right slots 5) hcs.2⟩) (fun H locs hW => ?_)
  have hW2 : wA (gx D cs β) (wm (gx D cs β) ν ++ wx (gx D cs α) u) (fun q => s.heap.size ≤ q) s.heap H locs := kd_swap hW
  refine lv_aload_n hx hb dL_law_387 rfl (lv_at hl 2 rfl) ?_
  refine lv_aload_n hx hb dL_law_388 rfl (lv_at hl 0 rfl) ?_
  refine lv_iload_n hx hb dL_law_389 rfl (lv_at hl 3 rfl) ?_
  refine lv_iconst (v := 1) hx hb dL_law_390 (by decide) ?_
  refine lv_iadd hx hb dL_law_391 ?_
  refine kl_ld (k := 1) hC hX hbl hi hL hW (by decide) (by decide) dL_law_392 ?_
  refine lv_aload_n hx hb dL_law_393 rfl (lv_at hl 0 rfl) ?_
  refine lv_iload_n hx hb dL_law_394 rfl (lv_at hl 3 rfl) ?_
  refine lv_iconst (v := 2) hx hb dL_law_395 (by decide) ?_
  refine lv_iadd hx hb dL_law_396 ?_
  refine kl_ld (k := 2) hC hX hbl hi hL hW (by decide) (by decide) dL_law_397 ?_
  refine lv_aload_n hx hb dL_law_398 rfl (lv_at hl 0 rfl) ?_
  refine lv_iload_n hx hb dL_law_399 rfl (lv_at hl 3 rfl) ?_
  refine lv_iconst (v := 3) hx hb dL_law_400 (by decide) ?_
  refine lv_iadd hx hb dL_law_401 ?_
  refine kl_ld (k := 3) hC hX hbl hi hL hW (by decide) (by decide) dL_law_402 ?_
  have hC2 : Cx (gx D cs β) RL code 4 p s m #[Value.ref b] c := hC
  refine kd_i hW2 (kd_run hC2 hW2 hl.1 (t_md_visit h2) ⟨rfl, rfl⟩ cw_L_37 (wm_0 (gx D cs β) ν) rfl rfl rfl (Nat.le_of_ble_eq_true rfl) dL_law_403 ⟨Nat.le_of_ble_eq_true rfl, Nat.le_of_ble_eq_true rfl⟩ ⟨Nat.le_of_succ_le hcs.1, Nat.le_trans (Nat.le_add_right slots 5) hcs.2⟩) (fun H locs hW => ?_)
  refine lv_icmp_eq (tgt := 1751) hx hb dL_law_406 (by decide) (fun _ => ?_) (fun hc => absurd rfl hc)
  refine W.widen (k := cells + 1) (n := slots + 5) (Nat.le_succ _) (Nat.le_add_right _ _) ?_
  exact kk α u w rfl hR (kd_swap hW) hl
set_option maxHeartbeats 4000000 in
set_option maxRecDepth 100000 in
theorem lc_5 (hC : Cx (gx D cs α) RL code 4 p s m #[Value.ref b] c) (hX : va_X b L xs s s.heap) (hbl : b < s.heap.size) (hi : 6 * i + 6 ≤ L) (hL : L ≤ 3072) (hs : ST_reader Rel) (hRel : Rel μ ν) (hcs : cells + 1 ≤ 600000 ∧ slots + 5 ≤ 7302250) (hW : wA (gx D cs α) (wx (gx D cs α) μ ++ wm (gx D cs β) ν) (fun q => s.heap.size ≤ q) s.heap H locs) (hl : lv_has ls 4 [(0, .ref b), (1, .ref (ad (gx D cs α) 0)), (2, .ref (ad (gx D cs β) 0)), (3, .int (nI (6 * i)))])
    (kk : ∀ {H : Heap} {locs : List Loc} {ls : Array Slot} (z : Nat → Nat) (μ ν : Mm), z 0 = ad (gx D cs α) 0 → Rel μ ν → wA (gx D cs α) (wx (gx D cs z) μ ++ wm (gx D cs β) ν) (fun q => s.heap.size ≤ q) s.heap H locs → lv_has ls 4 [(0, .ref b), (1, .ref (ad (gx D cs α) 0)), (2, .ref (ad (gx D cs β) 0)), (3, .int (nI (6 * i)))] → W p l e room_1 s m #[Value.ref b] below meth c H locs (cells + 1) (slots + 5) Q (F0 m 1751 ls [])) : W p l e room_1 s m #[Value.ref b] below meth c H locs cells slots Q (F0 m 411 ls []) := by
  obtain ⟨hx, hb, hml, hown, hts, hK, hN⟩ := id hC
  refine lv_aload_n hx hb dL_law_411 rfl (lv_at hl 1 rfl) ?_
  refine lv_aload_n hx hb dL_law_412 rfl (lv_at hl 0 rfl) ?_
  refine lv_iload_n hx hb dL_law_413 rfl (lv_at hl 3 rfl) ?_
  refine lv_iconst (v := 1) hx hb dL_law_414 (by decide) ?_
  refine lv_iadd hx hb dL_law_415 ?_
  refine kl_ld (k := 1) hC hX hbl hi hL hW (by decide) (by decide) dL_law_416 ?_
  refine lv_aload_n hx hb dL_law_417 rfl (lv_at hl 0 rfl) ?_
  refine lv_iload_n hx hb dL_law_418 rfl (lv_at hl 3 rfl) ?_
  refine lv_iconst (v := 2) hx hb dL_law_419 (by decide) ?_
  refine lv_iadd hx hb dL_law_420 ?_
  refine kl_ld (k := 2) hC hX hbl hi hL hW (by decide) (by decide) dL_law_421 ?_
  obtain ⟨v, u, w, h1, h2, hR⟩ := hs μ ν (xs (6 * i + 1)) (xs (6 * i + 2)) hRel
  refine kd_i hW (kd_run hC hW hl.1 (t_vs_reader h1) ⟨rfl, rfl⟩ cw_L_38 (wx_0 (gx D cs α) μ) rfl rfl rfl (Nat.le_of_ble_eq_true rfl) dL_law_422 ⟨Nat.le_of_ble_eq_true rfl, Nat.le_of_ble_eq_true rfl⟩ ⟨Nat.le_of_succ_le hcs.1, Nat.le_trans (Nat.le_add_right slots 5) hcs.2⟩) (fun H locs hW => ?_)
  have hW2 : wA (gx D cs β) (wm (gx D cs β) ν ++ wx (gx D cs α) u) (fun q => s.heap.size ≤ q) s.heap H locs := kd_swap hW
  refine lv_aload_n hx hb dL_law_425 rfl (lv_at hl 2 rfl) ?_
  refine lv_aload_n hx hb dL_law_426 rfl (lv_at hl 0 rfl) ?_
  refine lv_iload_n hx hb dL_law_427 rfl (lv_at hl 3 rfl) ?_
  refine lv_iconst (v := 1) hx hb dL_law_428 (by decide) ?_
  refine lv_iadd hx hb dL_law_429 ?_
  refine kl_ld (k := 1) hC hX hbl hi hL hW (by decide) (by decide) dL_law_430 ?_
  refine lv_aload_n hx hb dL_law_431 rfl (lv_at hl 0 rfl) ?_
  refine lv_iload_n hx hb dL_law_432 rfl (lv_at hl 3 rfl) ?_
  refine lv_iconst (v := 2) hx hb dL_law_433 (by decide) ?_
  refine lv_iadd hx hb dL_law_434 ?_
  refine kl_ld (k := 2) hC hX hbl hi hL hW (by decide) (by decide) dL_law_435 ?_
  have hC2 : Cx (gx D cs β) RL code 4 p s m #[Value.ref b] c := hC
  refine kd_i hW2 (kd_run hC2 hW2 hl.1 (t_md_reader h2) ⟨rfl, rfl⟩ cw_L_42 (wm_0 (gx D cs β) ν) rfl rfl rfl (Nat.le_of_ble_eq_true rfl) dL_law_436 ⟨Nat.le_of_ble_eq_true rfl, Nat.le_of_ble_eq_true rfl⟩ ⟨Nat.le_of_succ_le hcs.1, Nat.le_trans (Nat.le_add_right slots 5) hcs.2⟩) (fun H locs hW => ?_)
  refine lv_icmp_eq (tgt := 1751) hx hb dL_law_439 (by decide) (fun _ => ?_) (fun hc => absurd rfl hc)
  refine W.widen (k := cells + 1) (n := slots + 5) (Nat.le_succ _) (Nat.le_add_right _ _) ?_
  exact kk α u w rfl hR (kd_swap hW) hl
set_option maxHeartbeats 4000000 in
set_option maxRecDepth 100000 in
theorem lc_6 (hC : Cx (gx D cs α) RL code 4 p s m #[Value.ref b] c) (hX : va_X b L xs s s.heap) (hbl : b < s.heap.size) (hi : 6 * i + 6 ≤ L) (hL : L ≤ 3072) (hs : ST_taste Rel) (hRel : Rel μ ν) (hcs : cells + 1 ≤ 600000 ∧ slots + 5 ≤ 7302250) (hW : wA (gx D cs α) (wx (gx D cs α) μ ++ wm (gx D cs β) ν) (fun q => s.heap.size ≤ q) s.heap H locs) (hl : lv_has ls 4 [(0, .ref b), (1, .ref (ad (gx D cs α) 0)), (2, .ref (ad (gx D cs β) 0)), (3, .int (nI (6 * i)))])
    (kk : ∀ {H : Heap} {locs : List Loc} {ls : Array Slot} (z : Nat → Nat) (μ ν : Mm), z 0 = ad (gx D cs α) 0 → Rel μ ν → wA (gx D cs α) (wx (gx D cs z) μ ++ wm (gx D cs β) ν) (fun q => s.heap.size ≤ q) s.heap H locs → lv_has ls 4 [(0, .ref b), (1, .ref (ad (gx D cs α) 0)), (2, .ref (ad (gx D cs β) 0)), (3, .int (nI (6 * i)))] → W p l e room_1 s m #[Value.ref b] below meth c H locs (cells + 1) (slots + 5) Q (F0 m 1751 ls [])) : W p l e room_1 s m #[Value.ref b] below meth c H locs cells slots Q (F0 m 444 ls []) := by
  obtain ⟨hx, hb, hml, hown, hts, hK, hN⟩ := id hC
  refine lv_aload_n hx hb dL_law_444 rfl (lv_at hl 1 rfl) ?_
  refine lv_aload_n hx hb dL_law_445 rfl (lv_at hl 0 rfl) ?_
  refine lv_iload_n hx hb dL_law_446 rfl (lv_at hl 3 rfl) ?_
  refine lv_iconst (v := 1) hx hb dL_law_447 (by decide) ?_
  refine lv_iadd hx hb dL_law_448 ?_
  refine kl_ld (k := 1) hC hX hbl hi hL hW (by decide) (by decide) dL_law_449 ?_
  refine lv_aload_n hx hb dL_law_450 rfl (lv_at hl 0 rfl) ?_
  refine lv_iload_n hx hb dL_law_451 rfl (lv_at hl 3 rfl) ?_
  refine lv_iconst (v := 2) hx hb dL_law_452 (by decide) ?_
  refine lv_iadd hx hb dL_law_453 ?_
  refine kl_ld (k := 2) hC hX hbl hi hL hW (by decide) (by decide) dL_law_454 ?_
  refine lv_aload_n hx hb dL_law_455 rfl (lv_at hl 0 rfl) ?_
  refine lv_iload_n hx hb dL_law_456 rfl (lv_at hl 3 rfl) ?_
  refine lv_iconst (v := 3) hx hb dL_law_457 (by decide) ?_
  refine lv_iadd hx hb dL_law_458 ?_
  refine kl_ld (k := 3) hC hX hbl hi hL hW (by decide) (by decide) dL_law_459 ?_
  obtain ⟨v, u, w, h1, h2, hR⟩ := hs μ ν (xs (6 * i + 1)) (xs (6 * i + 2)) (xs (6 * i + 3)) hRel
  refine kd_i hW (kd_run hC hW hl.1 (t_vs_taste h1) ⟨rfl, rfl⟩ cw_L_43 (wx_0 (gx D cs α) μ) rfl rfl rfl (Nat.le_of_ble_eq_true rfl) dL_law_460 ⟨Nat.le_of_ble_eq_true rfl, Nat.le_of_ble_eq_true rfl⟩ ⟨Nat.le_of_succ_le hcs.1, Nat.le_trans (Nat.le_add_right slots 5) hcs.2⟩) (fun H locs hW => ?_)
  have hW2 : wA (gx D cs β) (wm (gx D cs β) ν ++ wx (gx D cs α) u) (fun q => s.heap.size ≤ q) s.heap H locs := kd_swap hW
  refine lv_aload_n hx hb dL_law_463 rfl (lv_at hl 2 rfl) ?_
  refine lv_aload_n hx hb dL_law_464 rfl (lv_at hl 0 rfl) ?_
  refine lv_iload_n hx hb dL_law_465 rfl (lv_at hl 3 rfl) ?_
  refine lv_iconst (v := 1) hx hb dL_law_466 (by decide) ?_
  refine lv_iadd hx hb dL_law_467 ?_
  refine kl_ld (k := 1) hC hX hbl hi hL hW (by decide) (by decide) dL_law_468 ?_
  refine lv_aload_n hx hb dL_law_469 rfl (lv_at hl 0 rfl) ?_
  refine lv_iload_n hx hb dL_law_470 rfl (lv_at hl 3 rfl) ?_
  refine lv_iconst (v := 2) hx hb dL_law_471 (by decide) ?_
  refine lv_iadd hx hb dL_law_472 ?_
  refine kl_ld (k := 2) hC hX hbl hi hL hW (by decide) (by decide) dL_law_473 ?_
  refine lv_aload_n hx hb dL_law_474 rfl (lv_at hl 0 rfl) ?_
  refine lv_iload_n hx hb dL_law_475 rfl (lv_at hl 3 rfl) ?_
  refine lv_iconst (v := 3) hx hb dL_law_476 (by decide) ?_
  refine lv_iadd hx hb dL_law_477 ?_
  refine kl_ld (k := 3) hC hX hbl hi hL hW (by decide) (by decide) dL_law_478 ?_
  have hC2 : Cx (gx D cs β) RL code 4 p s m #[Value.ref b] c := hC
  refine kd_i hW2 (kd_run hC2 hW2 hl.1 (t_md_taste h2) ⟨rfl, rfl⟩ cw_L_46 (wm_0 (gx D cs β) ν) rfl rfl rfl (Nat.le_of_ble_eq_true rfl) dL_law_479 ⟨Nat.le_of_ble_eq_true rfl, Nat.le_of_ble_eq_true rfl⟩ ⟨Nat.le_of_succ_le hcs.1, Nat.le_trans (Nat.le_add_right slots 5) hcs.2⟩) (fun H locs hW => ?_)
  refine lv_icmp_eq (tgt := 1751) hx hb dL_law_482 (by decide) (fun _ => ?_) (fun hc => absurd rfl hc)
  refine W.widen (k := cells + 1) (n := slots + 5) (Nat.le_succ _) (Nat.le_add_right _ _) ?_
  exact kk α u w rfl hR (kd_swap hW) hl
set_option maxHeartbeats 4000000 in
set_option maxRecDepth 100000 in
theorem lc_7 (hC : Cx (gx D cs α) RL code 4 p s m #[Value.ref b] c) (hX : va_X b L xs s s.heap) (hbl : b < s.heap.size) (hi : 6 * i + 6 ≤ L) (hL : L ≤ 3072) (hs : ST_had Rel) (hRel : Rel μ ν) (hcs : cells + 1 ≤ 600000 ∧ slots + 5 ≤ 7302250) (hW : wA (gx D cs α) (wx (gx D cs α) μ ++ wm (gx D cs β) ν) (fun q => s.heap.size ≤ q) s.heap H locs) (hl : lv_has ls 4 [(0, .ref b), (1, .ref (ad (gx D cs α) 0)), (2, .ref (ad (gx D cs β) 0)), (3, .int (nI (6 * i)))])
    (kk : ∀ {H : Heap} {locs : List Loc} {ls : Array Slot} (z : Nat → Nat) (μ ν : Mm), z 0 = ad (gx D cs α) 0 → Rel μ ν → wA (gx D cs α) (wx (gx D cs z) μ ++ wm (gx D cs β) ν) (fun q => s.heap.size ≤ q) s.heap H locs → lv_has ls 4 [(0, .ref b), (1, .ref (ad (gx D cs α) 0)), (2, .ref (ad (gx D cs β) 0)), (3, .int (nI (6 * i)))] → W p l e room_1 s m #[Value.ref b] below meth c H locs (cells + 1) (slots + 5) Q (F0 m 1751 ls [])) : W p l e room_1 s m #[Value.ref b] below meth c H locs cells slots Q (F0 m 487 ls []) := by
  obtain ⟨hx, hb, hml, hown, hts, hK, hN⟩ := id hC
  refine lv_aload_n hx hb dL_law_487 rfl (lv_at hl 1 rfl) ?_
  refine lv_aload_n hx hb dL_law_488 rfl (lv_at hl 0 rfl) ?_
  refine lv_iload_n hx hb dL_law_489 rfl (lv_at hl 3 rfl) ?_
  refine lv_iconst (v := 1) hx hb dL_law_490 (by decide) ?_
  refine lv_iadd hx hb dL_law_491 ?_
  refine kl_ld (k := 1) hC hX hbl hi hL hW (by decide) (by decide) dL_law_492 ?_
  refine lv_aload_n hx hb dL_law_493 rfl (lv_at hl 0 rfl) ?_
  refine lv_iload_n hx hb dL_law_494 rfl (lv_at hl 3 rfl) ?_
  refine lv_iconst (v := 2) hx hb dL_law_495 (by decide) ?_
  refine lv_iadd hx hb dL_law_496 ?_
  refine kl_ld (k := 2) hC hX hbl hi hL hW (by decide) (by decide) dL_law_497 ?_
  obtain ⟨v, u, w, h1, h2, hR⟩ := hs μ ν (xs (6 * i + 1)) (xs (6 * i + 2)) hRel
  refine kd_i hW (kd_run hC hW hl.1 (t_vs_had h1) ⟨rfl, rfl⟩ cw_L_47 (wx_0 (gx D cs α) μ) rfl rfl rfl (Nat.le_of_ble_eq_true rfl) dL_law_498 ⟨Nat.le_of_ble_eq_true rfl, Nat.le_of_ble_eq_true rfl⟩ ⟨Nat.le_of_succ_le hcs.1, Nat.le_trans (Nat.le_add_right slots 5) hcs.2⟩) (fun H locs hW => ?_)
  have hW2 : wA (gx D cs β) (wm (gx D cs β) ν ++ wx (gx D cs α) u) (fun q => s.heap.size ≤ q) s.heap H locs := kd_swap hW
  refine lv_aload_n hx hb dL_law_501 rfl (lv_at hl 2 rfl) ?_
  refine lv_aload_n hx hb dL_law_502 rfl (lv_at hl 0 rfl) ?_
  refine lv_iload_n hx hb dL_law_503 rfl (lv_at hl 3 rfl) ?_
  refine lv_iconst (v := 1) hx hb dL_law_504 (by decide) ?_
  refine lv_iadd hx hb dL_law_505 ?_
  refine kl_ld (k := 1) hC hX hbl hi hL hW (by decide) (by decide) dL_law_506 ?_
  refine lv_aload_n hx hb dL_law_507 rfl (lv_at hl 0 rfl) ?_
  refine lv_iload_n hx hb dL_law_508 rfl (lv_at hl 3 rfl) ?_
  refine lv_iconst (v := 2) hx hb dL_law_509 (by decide) ?_
  refine lv_iadd hx hb dL_law_510 ?_
  refine kl_ld (k := 2) hC hX hbl hi hL hW (by decide) (by decide) dL_law_511 ?_
  have hC2 : Cx (gx D cs β) RL code 4 p s m #[Value.ref b] c := hC
  refine kd_i hW2 (kd_run hC2 hW2 hl.1 (t_md_had h2) ⟨rfl, rfl⟩ cw_L_50 (wm_0 (gx D cs β) ν) rfl rfl rfl (Nat.le_of_ble_eq_true rfl) dL_law_512 ⟨Nat.le_of_ble_eq_true rfl, Nat.le_of_ble_eq_true rfl⟩ ⟨Nat.le_of_succ_le hcs.1, Nat.le_trans (Nat.le_add_right slots 5) hcs.2⟩) (fun H locs hW => ?_)
  refine lv_icmp_eq (tgt := 1751) hx hb dL_law_515 (by decide) (fun _ => ?_) (fun hc => absurd rfl hc)
  refine W.widen (k := cells + 1) (n := slots + 5) (Nat.le_succ _) (Nat.le_add_right _ _) ?_
  exact kk α u w rfl hR (kd_swap hW) hl
set_option maxHeartbeats 4000000 in
set_option maxRecDepth 100000 in
theorem lc_8 (hC : Cx (gx D cs α) RL code 4 p s m #[Value.ref b] c) (hX : va_X b L xs s s.heap) (hbl : b < s.heap.size) (hi : 6 * i + 6 ≤ L) (hL : L ≤ 3072) (hs : ST_feed Rel) (hRel : Rel μ ν) (hcs : cells + 1 ≤ 600000 ∧ slots + 5 ≤ 7302250) (hW : wA (gx D cs α) (wx (gx D cs α) μ ++ wm (gx D cs β) ν) (fun q => s.heap.size ≤ q) s.heap H locs) (hl : lv_has ls 4 [(0, .ref b), (1, .ref (ad (gx D cs α) 0)), (2, .ref (ad (gx D cs β) 0)), (3, .int (nI (6 * i)))])
    (kk : ∀ {H : Heap} {locs : List Loc} {ls : Array Slot} (z : Nat → Nat) (μ ν : Mm), z 0 = ad (gx D cs α) 0 → Rel μ ν → wA (gx D cs α) (wx (gx D cs z) μ ++ wm (gx D cs β) ν) (fun q => s.heap.size ≤ q) s.heap H locs → lv_has ls 4 [(0, .ref b), (1, .ref (ad (gx D cs α) 0)), (2, .ref (ad (gx D cs β) 0)), (3, .int (nI (6 * i)))] → W p l e room_1 s m #[Value.ref b] below meth c H locs (cells + 1) (slots + 5) Q (F0 m 1751 ls [])) : W p l e room_1 s m #[Value.ref b] below meth c H locs cells slots Q (F0 m 520 ls []) := by
  obtain ⟨hx, hb, hml, hown, hts, hK, hN⟩ := id hC
  refine lv_aload_n hx hb dL_law_520 rfl (lv_at hl 1 rfl) ?_
  refine lv_aload_n hx hb dL_law_521 rfl (lv_at hl 0 rfl) ?_
  refine lv_iload_n hx hb dL_law_522 rfl (lv_at hl 3 rfl) ?_
  refine lv_iconst (v := 1) hx hb dL_law_523 (by decide) ?_
  refine lv_iadd hx hb dL_law_524 ?_
  refine kl_ld (k := 1) hC hX hbl hi hL hW (by decide) (by decide) dL_law_525 ?_
  refine lv_aload_n hx hb dL_law_526 rfl (lv_at hl 0 rfl) ?_
  refine lv_iload_n hx hb dL_law_527 rfl (lv_at hl 3 rfl) ?_
  refine lv_iconst (v := 2) hx hb dL_law_528 (by decide) ?_
  refine lv_iadd hx hb dL_law_529 ?_
  refine kl_ld (k := 2) hC hX hbl hi hL hW (by decide) (by decide) dL_law_530 ?_
  refine lv_aload_n hx hb dL_law_531 rfl (lv_at hl 0 rfl) ?_
  refine lv_iload_n hx hb dL_law_532 rfl (lv_at hl 3 rfl) ?_
  refine lv_iconst (v := 3) hx hb dL_law_533 (by decide) ?_
  refine lv_iadd hx hb dL_law_534 ?_
  refine kl_ld (k := 3) hC hX hbl hi hL hW (by decide) (by decide) dL_law_535 ?_
  refine lv_aload_n hx hb dL_law_536 rfl (lv_at hl 0 rfl) ?_
  refine lv_iload_n hx hb dL_law_537 rfl (lv_at hl 3 rfl) ?_
  refine lv_iconst (v := 4) hx hb dL_law_538 (by decide) ?_
  refine lv_iadd hx hb dL_law_539 ?_
  refine kl_ld (k := 4) hC hX hbl hi hL hW (by decide) (by decide) dL_law_540 ?_
  refine lv_aload_n hx hb dL_law_541 rfl (lv_at hl 0 rfl) ?_
  refine lv_iload_n hx hb dL_law_542 rfl (lv_at hl 3 rfl) ?_
  refine lv_iconst (v := 5) hx hb dL_law_543 (by decide) ?_
  refine lv_iadd hx hb dL_law_544 ?_
  refine kl_ld (k := 5) hC hX hbl hi hL hW (by decide) (by decide) dL_law_545 ?_
  obtain ⟨v, u, w, h1, h2, hR⟩ := hs μ ν (xs (6 * i + 1)) (xs (6 * i + 2)) (xs (6 * i + 3)) (xs (6 * i + 4)) (xs (6 * i + 5)) hRel
  refine kd_i hW (kd_run hC hW hl.1 (t_vs_feed h1) ⟨rfl, rfl⟩ cw_L_51 (wx_0 (gx D cs α) μ) rfl rfl rfl (Nat.le_of_ble_eq_true rfl) dL_law_546 ⟨Nat.le_of_ble_eq_true rfl, Nat.le_of_ble_eq_true rfl⟩ ⟨Nat.le_of_succ_le hcs.1, Nat.le_trans (Nat.le_add_right slots 5) hcs.2⟩) (fun H locs hW => ?_)
  have hW2 : wA (gx D cs β) (wm (gx D cs β) ν ++ wx (gx D cs α) u) (fun q => s.heap.size ≤ q) s.heap H locs := kd_swap hW
  refine lv_aload_n hx hb dL_law_549 rfl (lv_at hl 2 rfl) ?_
  refine lv_aload_n hx hb dL_law_550 rfl (lv_at hl 0 rfl) ?_
  refine lv_iload_n hx hb dL_law_551 rfl (lv_at hl 3 rfl) ?_
  refine lv_iconst (v := 1) hx hb dL_law_552 (by decide) ?_
  refine lv_iadd hx hb dL_law_553 ?_
  refine kl_ld (k := 1) hC hX hbl hi hL hW (by decide) (by decide) dL_law_554 ?_
  refine lv_aload_n hx hb dL_law_555 rfl (lv_at hl 0 rfl) ?_
  refine lv_iload_n hx hb dL_law_556 rfl (lv_at hl 3 rfl) ?_
  refine lv_iconst (v := 2) hx hb dL_law_557 (by decide) ?_
  refine lv_iadd hx hb dL_law_558 ?_
  refine kl_ld (k := 2) hC hX hbl hi hL hW (by decide) (by decide) dL_law_559 ?_
  refine lv_aload_n hx hb dL_law_560 rfl (lv_at hl 0 rfl) ?_
  refine lv_iload_n hx hb dL_law_561 rfl (lv_at hl 3 rfl) ?_
  refine lv_iconst (v := 3) hx hb dL_law_562 (by decide) ?_
  refine lv_iadd hx hb dL_law_563 ?_
  refine kl_ld (k := 3) hC hX hbl hi hL hW (by decide) (by decide) dL_law_564 ?_
  refine lv_aload_n hx hb dL_law_565 rfl (lv_at hl 0 rfl) ?_
  refine lv_iload_n hx hb dL_law_566 rfl (lv_at hl 3 rfl) ?_
  refine lv_iconst (v := 4) hx hb dL_law_567 (by decide) ?_
  refine lv_iadd hx hb dL_law_568 ?_
  refine kl_ld (k := 4) hC hX hbl hi hL hW (by decide) (by decide) dL_law_569 ?_
  refine lv_aload_n hx hb dL_law_570 rfl (lv_at hl 0 rfl) ?_
  refine lv_iload_n hx hb dL_law_571 rfl (lv_at hl 3 rfl) ?_
  refine lv_iconst (v := 5) hx hb dL_law_572 (by decide) ?_
  refine lv_iadd hx hb dL_law_573 ?_
  refine kl_ld (k := 5) hC hX hbl hi hL hW (by decide) (by decide) dL_law_574 ?_
  have hC2 : Cx (gx D cs β) RL code 4 p s m #[Value.ref b] c := hC
  refine kd_i hW2 (kd_run hC2 hW2 hl.1 (t_md_feed h2) ⟨rfl, rfl⟩ cw_L_55 (wm_0 (gx D cs β) ν) rfl rfl rfl (Nat.le_of_ble_eq_true rfl) dL_law_575 ⟨Nat.le_of_ble_eq_true rfl, Nat.le_of_ble_eq_true rfl⟩ ⟨Nat.le_of_succ_le hcs.1, Nat.le_trans (Nat.le_add_right slots 5) hcs.2⟩) (fun H locs hW => ?_)
  refine lv_icmp_eq (tgt := 1751) hx hb dL_law_578 (by decide) (fun _ => ?_) (fun hc => absurd rfl hc)
  refine W.widen (k := cells + 1) (n := slots + 5) (Nat.le_succ _) (Nat.le_add_right _ _) ?_
  exact kk α u w rfl hR (kd_swap hW) hl
set_option maxHeartbeats 4000000 in
set_option maxRecDepth 100000 in
theorem lc_9 (hC : Cx (gx D cs α) RL code 4 p s m #[Value.ref b] c) (hX : va_X b L xs s s.heap) (hbl : b < s.heap.size) (hi : 6 * i + 6 ≤ L) (hL : L ≤ 3072) (hs : ST_law Rel) (hRel : Rel μ ν) (hcs : cells + 1 ≤ 600000 ∧ slots + 5 ≤ 7302250) (hW : wA (gx D cs α) (wx (gx D cs α) μ ++ wm (gx D cs β) ν) (fun q => s.heap.size ≤ q) s.heap H locs) (hl : lv_has ls 4 [(0, .ref b), (1, .ref (ad (gx D cs α) 0)), (2, .ref (ad (gx D cs β) 0)), (3, .int (nI (6 * i)))])
    (kk : ∀ {H : Heap} {locs : List Loc} {ls : Array Slot} (z : Nat → Nat) (μ ν : Mm), z 0 = ad (gx D cs α) 0 → Rel μ ν → wA (gx D cs α) (wx (gx D cs z) μ ++ wm (gx D cs β) ν) (fun q => s.heap.size ≤ q) s.heap H locs → lv_has ls 4 [(0, .ref b), (1, .ref (ad (gx D cs α) 0)), (2, .ref (ad (gx D cs β) 0)), (3, .int (nI (6 * i)))] → W p l e room_1 s m #[Value.ref b] below meth c H locs (cells + 1) (slots + 5) Q (F0 m 1751 ls [])) : W p l e room_1 s m #[Value.ref b] below meth c H locs cells slots Q (F0 m 583 ls []) := by
  obtain ⟨hx, hb, hml, hown, hts, hK, hN⟩ := id hC
  refine lv_aload_n hx hb dL_law_583 rfl (lv_at hl 1 rfl) ?_
  refine lv_aload_n hx hb dL_law_584 rfl (lv_at hl 0 rfl) ?_
  refine lv_iload_n hx hb dL_law_585 rfl (lv_at hl 3 rfl) ?_
  refine lv_iconst (v := 1) hx hb dL_law_586 (by decide) ?_
  refine lv_iadd hx hb dL_law_587 ?_
  refine kl_ld (k := 1) hC hX hbl hi hL hW (by decide) (by decide) dL_law_588 ?_
  obtain ⟨v, u, w, h1, h2, hR⟩ := hs μ ν (xs (6 * i + 1)) hRel
  refine kd_g hW (kd_run hC hW hl.1 (t_vs_law h1) ⟨rfl, rfl⟩ cw_L_56 (wx_0 (gx D cs α) μ) rfl rfl rfl (Nat.le_of_ble_eq_true rfl) dL_law_589 ⟨Nat.le_of_ble_eq_true rfl, Nat.le_of_ble_eq_true rfl⟩ ⟨hcs.1, hcs.2⟩) (fun z H locs hz0 hW => ?_)
  have hW2 : wA (gx D cs β) (wm (gx D cs β) ν ++ wx (gx D cs z) u) (fun q => s.heap.size ≤ q) s.heap H locs := kd_swap hW
  refine lv_aload_n hx hb dL_law_592 rfl (lv_at hl 2 rfl) ?_
  refine lv_aload_n hx hb dL_law_593 rfl (lv_at hl 0 rfl) ?_
  refine lv_iload_n hx hb dL_law_594 rfl (lv_at hl 3 rfl) ?_
  refine lv_iconst (v := 1) hx hb dL_law_595 (by decide) ?_
  refine lv_iadd hx hb dL_law_596 ?_
  refine kl_ld (k := 1) hC hX hbl hi hL hW (by decide) (by decide) dL_law_597 ?_
  have hC2 : Cx (gx D cs β) RL code 4 p s m #[Value.ref b] c := hC
  refine kd_i hW2 (kd_run hC2 hW2 hl.1 (t_md_law h2) ⟨rfl, rfl⟩ cw_L_60 (wm_0 (gx D cs β) ν) rfl rfl rfl (Nat.le_of_ble_eq_true rfl) dL_law_598 ⟨Nat.le_of_ble_eq_true rfl, Nat.le_of_ble_eq_true rfl⟩ ⟨hcs.1, hcs.2⟩) (fun H locs hW => ?_)
  refine lv_icmp_eq (tgt := 1751) hx hb dL_law_601 (by decide) (fun _ => ?_) (fun hc => absurd rfl hc)
  exact kk z u w hz0 hR (kd_swap hW) hl
set_option maxHeartbeats 4000000 in
set_option maxRecDepth 100000 in
theorem lc_10 (hC : Cx (gx D cs α) RL code 4 p s m #[Value.ref b] c) (hX : va_X b L xs s s.heap) (hbl : b < s.heap.size) (hi : 6 * i + 6 ≤ L) (hL : L ≤ 3072) (hs : ST_wants Rel) (hRel : Rel μ ν) (hcs : cells + 1 ≤ 600000 ∧ slots + 5 ≤ 7302250) (hW : wA (gx D cs α) (wx (gx D cs α) μ ++ wm (gx D cs β) ν) (fun q => s.heap.size ≤ q) s.heap H locs) (hl : lv_has ls 4 [(0, .ref b), (1, .ref (ad (gx D cs α) 0)), (2, .ref (ad (gx D cs β) 0)), (3, .int (nI (6 * i)))])
    (kk : ∀ {H : Heap} {locs : List Loc} {ls : Array Slot} (z : Nat → Nat) (μ ν : Mm), z 0 = ad (gx D cs α) 0 → Rel μ ν → wA (gx D cs α) (wx (gx D cs z) μ ++ wm (gx D cs β) ν) (fun q => s.heap.size ≤ q) s.heap H locs → lv_has ls 4 [(0, .ref b), (1, .ref (ad (gx D cs α) 0)), (2, .ref (ad (gx D cs β) 0)), (3, .int (nI (6 * i)))] → W p l e room_1 s m #[Value.ref b] below meth c H locs (cells + 1) (slots + 5) Q (F0 m 1751 ls [])) : W p l e room_1 s m #[Value.ref b] below meth c H locs cells slots Q (F0 m 606 ls []) := by
  obtain ⟨hx, hb, hml, hown, hts, hK, hN⟩ := id hC
  refine lv_aload_n hx hb dL_law_606 rfl (lv_at hl 1 rfl) ?_
  refine lv_aload_n hx hb dL_law_607 rfl (lv_at hl 0 rfl) ?_
  refine lv_iload_n hx hb dL_law_608 rfl (lv_at hl 3 rfl) ?_
  refine lv_iconst (v := 1) hx hb dL_law_609 (by decide) ?_
  refine lv_iadd hx hb dL_law_610 ?_
  refine kl_ld (k := 1) hC hX hbl hi hL hW (by decide) (by decide) dL_law_611 ?_
  refine lv_aload_n hx hb dL_law_612 rfl (lv_at hl 0 rfl) ?_
  refine lv_iload_n hx hb dL_law_613 rfl (lv_at hl 3 rfl) ?_
  refine lv_iconst (v := 2) hx hb dL_law_614 (by decide) ?_
  refine lv_iadd hx hb dL_law_615 ?_
  refine kl_ld (k := 2) hC hX hbl hi hL hW (by decide) (by decide) dL_law_616 ?_
  refine lv_aload_n hx hb dL_law_617 rfl (lv_at hl 0 rfl) ?_
  refine lv_iload_n hx hb dL_law_618 rfl (lv_at hl 3 rfl) ?_
  refine lv_iconst (v := 3) hx hb dL_law_619 (by decide) ?_
  refine lv_iadd hx hb dL_law_620 ?_
  refine kl_ld (k := 3) hC hX hbl hi hL hW (by decide) (by decide) dL_law_621 ?_
  refine lv_if_eq (tgt := 629) hx hb dL_law_622 (by decide) (fun hz => ?_) (fun hz => ?_)
  · refine lv_iconst (v := 0) hx hb dL_law_629 (by decide) ?_
    obtain ⟨v, u, w, h1, h2, hR⟩ := hs μ ν (xs (6 * i + 1)) (xs (6 * i + 2)) 0 hRel
    refine kd_i hW (kd_run hC hW hl.1 (t_vs_wants h1) ⟨rfl, rfl⟩ cw_L_61 (wx_0 (gx D cs α) μ) rfl rfl rfl (Nat.le_of_ble_eq_true rfl) dL_law_630 ⟨Nat.le_of_ble_eq_true rfl, Nat.le_of_ble_eq_true rfl⟩ ⟨Nat.le_of_succ_le hcs.1, Nat.le_trans (Nat.le_add_right slots 5) hcs.2⟩) (fun H locs hW => ?_)
    have hW2 : wA (gx D cs β) (wm (gx D cs β) ν ++ wx (gx D cs α) u) (fun q => s.heap.size ≤ q) s.heap H locs := kd_swap hW
    refine lv_aload_n hx hb dL_law_633 rfl (lv_at hl 2 rfl) ?_
    refine lv_aload_n hx hb dL_law_634 rfl (lv_at hl 0 rfl) ?_
    refine lv_iload_n hx hb dL_law_635 rfl (lv_at hl 3 rfl) ?_
    refine lv_iconst (v := 1) hx hb dL_law_636 (by decide) ?_
    refine lv_iadd hx hb dL_law_637 ?_
    refine kl_ld (k := 1) hC hX hbl hi hL hW (by decide) (by decide) dL_law_638 ?_
    refine lv_aload_n hx hb dL_law_639 rfl (lv_at hl 0 rfl) ?_
    refine lv_iload_n hx hb dL_law_640 rfl (lv_at hl 3 rfl) ?_
    refine lv_iconst (v := 2) hx hb dL_law_641 (by decide) ?_
    refine lv_iadd hx hb dL_law_642 ?_
    refine kl_ld (k := 2) hC hX hbl hi hL hW (by decide) (by decide) dL_law_643 ?_
    refine lv_aload_n hx hb dL_law_644 rfl (lv_at hl 0 rfl) ?_
    refine lv_iload_n hx hb dL_law_645 rfl (lv_at hl 3 rfl) ?_
    refine lv_iconst (v := 3) hx hb dL_law_646 (by decide) ?_
    refine lv_iadd hx hb dL_law_647 ?_
    refine kl_ld (k := 3) hC hX hbl hi hL hW (by decide) (by decide) dL_law_648 ?_
    refine lv_if_eq (tgt := 656) hx hb dL_law_649 (by decide) (fun _ => ?_) (fun hz9 => absurd hz hz9)
    refine lv_iconst (v := 0) hx hb dL_law_656 (by decide) ?_
    have hC2 : Cx (gx D cs β) RL code 4 p s m #[Value.ref b] c := hC
    refine kd_i hW2 (kd_run hC2 hW2 hl.1 (t_md_wants h2) ⟨rfl, rfl⟩ cw_L_65 (wm_0 (gx D cs β) ν) rfl rfl rfl (Nat.le_of_ble_eq_true rfl) dL_law_657 ⟨Nat.le_of_ble_eq_true rfl, Nat.le_of_ble_eq_true rfl⟩ ⟨Nat.le_of_succ_le hcs.1, Nat.le_trans (Nat.le_add_right slots 5) hcs.2⟩) (fun H locs hW => ?_)
    refine lv_icmp_eq (tgt := 1751) hx hb dL_law_660 (by decide) (fun _ => ?_) (fun hc => absurd rfl hc)
    refine W.widen (k := cells + 1) (n := slots + 5) (Nat.le_succ _) (Nat.le_add_right _ _) ?_
    exact kk α u w rfl hR (kd_swap hW) hl
  · refine lv_iconst (v := 1) hx hb dL_law_625 (by decide) ?_
    refine lv_goto (tgt := 630) hx hb dL_law_626 (by decide) ?_
    obtain ⟨v, u, w, h1, h2, hR⟩ := hs μ ν (xs (6 * i + 1)) (xs (6 * i + 2)) 1 hRel
    refine kd_i hW (kd_run hC hW hl.1 (t_vs_wants h1) ⟨rfl, rfl⟩ cw_L_61 (wx_0 (gx D cs α) μ) rfl rfl rfl (Nat.le_of_ble_eq_true rfl) dL_law_630 ⟨Nat.le_of_ble_eq_true rfl, Nat.le_of_ble_eq_true rfl⟩ ⟨Nat.le_of_succ_le hcs.1, Nat.le_trans (Nat.le_add_right slots 5) hcs.2⟩) (fun H locs hW => ?_)
    have hW2 : wA (gx D cs β) (wm (gx D cs β) ν ++ wx (gx D cs α) u) (fun q => s.heap.size ≤ q) s.heap H locs := kd_swap hW
    refine lv_aload_n hx hb dL_law_633 rfl (lv_at hl 2 rfl) ?_
    refine lv_aload_n hx hb dL_law_634 rfl (lv_at hl 0 rfl) ?_
    refine lv_iload_n hx hb dL_law_635 rfl (lv_at hl 3 rfl) ?_
    refine lv_iconst (v := 1) hx hb dL_law_636 (by decide) ?_
    refine lv_iadd hx hb dL_law_637 ?_
    refine kl_ld (k := 1) hC hX hbl hi hL hW (by decide) (by decide) dL_law_638 ?_
    refine lv_aload_n hx hb dL_law_639 rfl (lv_at hl 0 rfl) ?_
    refine lv_iload_n hx hb dL_law_640 rfl (lv_at hl 3 rfl) ?_
    refine lv_iconst (v := 2) hx hb dL_law_641 (by decide) ?_
    refine lv_iadd hx hb dL_law_642 ?_
    refine kl_ld (k := 2) hC hX hbl hi hL hW (by decide) (by decide) dL_law_643 ?_
    refine lv_aload_n hx hb dL_law_644 rfl (lv_at hl 0 rfl) ?_
    refine lv_iload_n hx hb dL_law_645 rfl (lv_at hl 3 rfl) ?_
    refine lv_iconst (v := 3) hx hb dL_law_646 (by decide) ?_
    refine lv_iadd hx hb dL_law_647 ?_
    refine kl_ld (k := 3) hC hX hbl hi hL hW (by decide) (by decide) dL_law_648 ?_
    refine lv_if_eq (tgt := 656) hx hb dL_law_649 (by decide) (fun hz9 => absurd hz9 hz) (fun _ => ?_)
    refine lv_iconst (v := 1) hx hb dL_law_652 (by decide) ?_
    refine lv_goto (tgt := 657) hx hb dL_law_653 (by decide) ?_
    have hC2 : Cx (gx D cs β) RL code 4 p s m #[Value.ref b] c := hC
    refine kd_i hW2 (kd_run hC2 hW2 hl.1 (t_md_wants h2) ⟨rfl, rfl⟩ cw_L_65 (wm_0 (gx D cs β) ν) rfl rfl rfl (Nat.le_of_ble_eq_true rfl) dL_law_657 ⟨Nat.le_of_ble_eq_true rfl, Nat.le_of_ble_eq_true rfl⟩ ⟨Nat.le_of_succ_le hcs.1, Nat.le_trans (Nat.le_add_right slots 5) hcs.2⟩) (fun H locs hW => ?_)
    refine lv_icmp_eq (tgt := 1751) hx hb dL_law_660 (by decide) (fun _ => ?_) (fun hc => absurd rfl hc)
    refine W.widen (k := cells + 1) (n := slots + 5) (Nat.le_succ _) (Nat.le_add_right _ _) ?_
    exact kk α u w rfl hR (kd_swap hW) hl
set_option maxHeartbeats 4000000 in
set_option maxRecDepth 100000 in
theorem lc_11 (hC : Cx (gx D cs α) RL code 4 p s m #[Value.ref b] c) (hX : va_X b L xs s s.heap) (hbl : b < s.heap.size) (hi : 6 * i + 6 ≤ L) (hL : L ≤ 3072) (hs : ST_visits Rel) (hRel : Rel μ ν) (hcs : cells + 1 ≤ 600000 ∧ slots + 5 ≤ 7302250) (hW : wA (gx D cs α) (wx (gx D cs α) μ ++ wm (gx D cs β) ν) (fun q => s.heap.size ≤ q) s.heap H locs) (hl : lv_has ls 4 [(0, .ref b), (1, .ref (ad (gx D cs α) 0)), (2, .ref (ad (gx D cs β) 0)), (3, .int (nI (6 * i)))])
    (kk : ∀ {H : Heap} {locs : List Loc} {ls : Array Slot} (z : Nat → Nat) (μ ν : Mm), z 0 = ad (gx D cs α) 0 → Rel μ ν → wA (gx D cs α) (wx (gx D cs z) μ ++ wm (gx D cs β) ν) (fun q => s.heap.size ≤ q) s.heap H locs → lv_has ls 4 [(0, .ref b), (1, .ref (ad (gx D cs α) 0)), (2, .ref (ad (gx D cs β) 0)), (3, .int (nI (6 * i)))] → W p l e room_1 s m #[Value.ref b] below meth c H locs (cells + 1) (slots + 5) Q (F0 m 1751 ls [])) : W p l e room_1 s m #[Value.ref b] below meth c H locs cells slots Q (F0 m 665 ls []) := by
  obtain ⟨hx, hb, hml, hown, hts, hK, hN⟩ := id hC
  refine lv_aload_n hx hb dL_law_665 rfl (lv_at hl 1 rfl) ?_
  refine lv_aload_n hx hb dL_law_666 rfl (lv_at hl 0 rfl) ?_
  refine lv_iload_n hx hb dL_law_667 rfl (lv_at hl 3 rfl) ?_
  refine lv_iconst (v := 1) hx hb dL_law_668 (by decide) ?_
  refine lv_iadd hx hb dL_law_669 ?_
  refine kl_ld (k := 1) hC hX hbl hi hL hW (by decide) (by decide) dL_law_670 ?_
  refine lv_aload_n hx hb dL_law_671 rfl (lv_at hl 0 rfl) ?_
  refine lv_iload_n hx hb dL_law_672 rfl (lv_at hl 3 rfl) ?_
  refine lv_iconst (v := 2) hx hb dL_law_673 (by decide) ?_
  refine lv_iadd hx hb dL_law_674 ?_
  refine kl_ld (k := 2) hC hX hbl hi hL hW (by decide) (by decide) dL_law_675 ?_
  refine lv_aload_n hx hb dL_law_676 rfl (lv_at hl 0 rfl) ?_
  refine lv_iload_n hx hb dL_law_677 rfl (lv_at hl 3 rfl) ?_
  refine lv_iconst (v := 3) hx hb dL_law_678 (by decide) ?_
  refine lv_iadd hx hb dL_law_679 ?_
  refine kl_ld (k := 3) hC hX hbl hi hL hW (by decide) (by decide) dL_law_680 ?_
  obtain ⟨v, h1, h2, hR⟩ := hs μ ν (xs (6 * i + 1)) (xs (6 * i + 2)) (xs (6 * i + 3)) hRel
  refine kd_i hW (kd_run hC hW hl.1 (t_vs_visits h1) ⟨rfl, rfl⟩ cw_L_66 (wx_0 (gx D cs α) μ) rfl rfl rfl (Nat.le_of_ble_eq_true rfl) dL_law_681 ⟨Nat.le_of_ble_eq_true rfl, Nat.le_of_ble_eq_true rfl⟩ ⟨Nat.le_of_succ_le hcs.1, Nat.le_trans (Nat.le_add_right slots 5) hcs.2⟩) (fun H locs hW => ?_)
  have hW2 : wA (gx D cs β) (wm (gx D cs β) ν ++ wx (gx D cs α) μ) (fun q => s.heap.size ≤ q) s.heap H locs := kd_swap hW
  refine lv_aload_n hx hb dL_law_684 rfl (lv_at hl 2 rfl) ?_
  refine lv_aload_n hx hb dL_law_685 rfl (lv_at hl 0 rfl) ?_
  refine lv_iload_n hx hb dL_law_686 rfl (lv_at hl 3 rfl) ?_
  refine lv_iconst (v := 1) hx hb dL_law_687 (by decide) ?_
  refine lv_iadd hx hb dL_law_688 ?_
  refine kl_ld (k := 1) hC hX hbl hi hL hW (by decide) (by decide) dL_law_689 ?_
  refine lv_aload_n hx hb dL_law_690 rfl (lv_at hl 0 rfl) ?_
  refine lv_iload_n hx hb dL_law_691 rfl (lv_at hl 3 rfl) ?_
  refine lv_iconst (v := 2) hx hb dL_law_692 (by decide) ?_
  refine lv_iadd hx hb dL_law_693 ?_
  refine kl_ld (k := 2) hC hX hbl hi hL hW (by decide) (by decide) dL_law_694 ?_
  refine lv_aload_n hx hb dL_law_695 rfl (lv_at hl 0 rfl) ?_
  refine lv_iload_n hx hb dL_law_696 rfl (lv_at hl 3 rfl) ?_
  refine lv_iconst (v := 3) hx hb dL_law_697 (by decide) ?_
  refine lv_iadd hx hb dL_law_698 ?_
  refine kl_ld (k := 3) hC hX hbl hi hL hW (by decide) (by decide) dL_law_699 ?_
  have hC2 : Cx (gx D cs β) RL code 4 p s m #[Value.ref b] c := hC
  refine kd_i hW2 (kd_run hC2 hW2 hl.1 (t_md_visits h2) ⟨rfl, rfl⟩ cw_L_69 (wm_0 (gx D cs β) ν) rfl rfl rfl (Nat.le_of_ble_eq_true rfl) dL_law_700 ⟨Nat.le_of_ble_eq_true rfl, Nat.le_of_ble_eq_true rfl⟩ ⟨Nat.le_of_succ_le hcs.1, Nat.le_trans (Nat.le_add_right slots 5) hcs.2⟩) (fun H locs hW => ?_)
  refine lv_icmp_eq (tgt := 1751) hx hb dL_law_703 (by decide) (fun _ => ?_) (fun hc => absurd rfl hc)
  refine W.widen (k := cells + 1) (n := slots + 5) (Nat.le_succ _) (Nat.le_add_right _ _) ?_
  exact kk α μ ν rfl hR (kd_swap hW) hl
set_option maxHeartbeats 4000000 in
set_option maxRecDepth 100000 in
theorem lc_12 (hC : Cx (gx D cs α) RL code 4 p s m #[Value.ref b] c) (hX : va_X b L xs s s.heap) (hbl : b < s.heap.size) (hi : 6 * i + 6 ≤ L) (hL : L ≤ 3072) (hs : ST_move Rel) (hRel : Rel μ ν) (hcs : cells + 1 ≤ 600000 ∧ slots + 5 ≤ 7302250) (hW : wA (gx D cs α) (wx (gx D cs α) μ ++ wm (gx D cs β) ν) (fun q => s.heap.size ≤ q) s.heap H locs) (hl : lv_has ls 4 [(0, .ref b), (1, .ref (ad (gx D cs α) 0)), (2, .ref (ad (gx D cs β) 0)), (3, .int (nI (6 * i)))])
    (kk : ∀ {H : Heap} {locs : List Loc} {ls : Array Slot} (z : Nat → Nat) (μ ν : Mm), z 0 = ad (gx D cs α) 0 → Rel μ ν → wA (gx D cs α) (wx (gx D cs z) μ ++ wm (gx D cs β) ν) (fun q => s.heap.size ≤ q) s.heap H locs → lv_has ls 4 [(0, .ref b), (1, .ref (ad (gx D cs α) 0)), (2, .ref (ad (gx D cs β) 0)), (3, .int (nI (6 * i)))] → W p l e room_1 s m #[Value.ref b] below meth c H locs (cells + 1) (slots + 5) Q (F0 m 1751 ls [])) : W p l e room_1 s m #[Value.ref b] below meth c H locs cells slots Q (F0 m 708 ls []) := by
  obtain ⟨hx, hb, hml, hown, hts, hK, hN⟩ := id hC
  refine lv_aload_n hx hb dL_law_708 rfl (lv_at hl 1 rfl) ?_
  refine lv_aload_n hx hb dL_law_709 rfl (lv_at hl 0 rfl) ?_
  refine lv_iload_n hx hb dL_law_710 rfl (lv_at hl 3 rfl) ?_
  refine lv_iconst (v := 1) hx hb dL_law_711 (by decide) ?_
  refine lv_iadd hx hb dL_law_712 ?_
  refine kl_ld (k := 1) hC hX hbl hi hL hW (by decide) (by decide) dL_law_713 ?_
  refine lv_aload_n hx hb dL_law_714 rfl (lv_at hl 0 rfl) ?_
  refine lv_iload_n hx hb dL_law_715 rfl (lv_at hl 3 rfl) ?_
  refine lv_iconst (v := 2) hx hb dL_law_716 (by decide) ?_
  refine lv_iadd hx hb dL_law_717 ?_
  refine kl_ld (k := 2) hC hX hbl hi hL hW (by decide) (by decide) dL_law_718 ?_
  obtain ⟨v, u, w, h1, h2, hR⟩ := hs μ ν (xs (6 * i + 1)) (xs (6 * i + 2)) hRel
  refine kd_i hW (kd_run hC hW hl.1 (t_vs_move h1) ⟨rfl, rfl⟩ cw_L_70 (wx_0 (gx D cs α) μ) rfl rfl rfl (Nat.le_of_ble_eq_true rfl) dL_law_719 ⟨Nat.le_of_ble_eq_true rfl, Nat.le_of_ble_eq_true rfl⟩ ⟨Nat.le_of_succ_le hcs.1, Nat.le_trans (Nat.le_add_right slots 5) hcs.2⟩) (fun H locs hW => ?_)
  have hW2 : wA (gx D cs β) (wm (gx D cs β) ν ++ wx (gx D cs α) u) (fun q => s.heap.size ≤ q) s.heap H locs := kd_swap hW
  refine lv_aload_n hx hb dL_law_722 rfl (lv_at hl 2 rfl) ?_
  refine lv_aload_n hx hb dL_law_723 rfl (lv_at hl 0 rfl) ?_
  refine lv_iload_n hx hb dL_law_724 rfl (lv_at hl 3 rfl) ?_
  refine lv_iconst (v := 1) hx hb dL_law_725 (by decide) ?_
  refine lv_iadd hx hb dL_law_726 ?_
  refine kl_ld (k := 1) hC hX hbl hi hL hW (by decide) (by decide) dL_law_727 ?_
  refine lv_aload_n hx hb dL_law_728 rfl (lv_at hl 0 rfl) ?_
  refine lv_iload_n hx hb dL_law_729 rfl (lv_at hl 3 rfl) ?_
  refine lv_iconst (v := 2) hx hb dL_law_730 (by decide) ?_
  refine lv_iadd hx hb dL_law_731 ?_
  refine kl_ld (k := 2) hC hX hbl hi hL hW (by decide) (by decide) dL_law_732 ?_
  have hC2 : Cx (gx D cs β) RL code 4 p s m #[Value.ref b] c := hC
  refine kd_i hW2 (kd_run hC2 hW2 hl.1 (t_md_move h2) ⟨rfl, rfl⟩ cw_L_73 (wm_0 (gx D cs β) ν) rfl rfl rfl (Nat.le_of_ble_eq_true rfl) dL_law_733 ⟨Nat.le_of_ble_eq_true rfl, Nat.le_of_ble_eq_true rfl⟩ ⟨Nat.le_of_succ_le hcs.1, Nat.le_trans (Nat.le_add_right slots 5) hcs.2⟩) (fun H locs hW => ?_)
  refine lv_icmp_eq (tgt := 1751) hx hb dL_law_736 (by decide) (fun _ => ?_) (fun hc => absurd rfl hc)
  refine W.widen (k := cells + 1) (n := slots + 5) (Nat.le_succ _) (Nat.le_add_right _ _) ?_
  exact kk α u w rfl hR (kd_swap hW) hl
set_option maxHeartbeats 4000000 in
set_option maxRecDepth 100000 in
theorem lc_13 (hC : Cx (gx D cs α) RL code 4 p s m #[Value.ref b] c) (hX : va_X b L xs s s.heap) (hbl : b < s.heap.size) (hi : 6 * i + 6 ≤ L) (hL : L ≤ 3072) (hs : ST_lend Rel) (hRel : Rel μ ν) (hcs : cells + 1 ≤ 600000 ∧ slots + 5 ≤ 7302250) (hW : wA (gx D cs α) (wx (gx D cs α) μ ++ wm (gx D cs β) ν) (fun q => s.heap.size ≤ q) s.heap H locs) (hl : lv_has ls 4 [(0, .ref b), (1, .ref (ad (gx D cs α) 0)), (2, .ref (ad (gx D cs β) 0)), (3, .int (nI (6 * i)))])
    (kk : ∀ {H : Heap} {locs : List Loc} {ls : Array Slot} (z : Nat → Nat) (μ ν : Mm), z 0 = ad (gx D cs α) 0 → Rel μ ν → wA (gx D cs α) (wx (gx D cs z) μ ++ wm (gx D cs β) ν) (fun q => s.heap.size ≤ q) s.heap H locs → lv_has ls 4 [(0, .ref b), (1, .ref (ad (gx D cs α) 0)), (2, .ref (ad (gx D cs β) 0)), (3, .int (nI (6 * i)))] → W p l e room_1 s m #[Value.ref b] below meth c H locs (cells + 1) (slots + 5) Q (F0 m 1751 ls [])) : W p l e room_1 s m #[Value.ref b] below meth c H locs cells slots Q (F0 m 741 ls []) := by
  obtain ⟨hx, hb, hml, hown, hts, hK, hN⟩ := id hC
  refine lv_aload_n hx hb dL_law_741 rfl (lv_at hl 1 rfl) ?_
  refine lv_aload_n hx hb dL_law_742 rfl (lv_at hl 0 rfl) ?_
  refine lv_iload_n hx hb dL_law_743 rfl (lv_at hl 3 rfl) ?_
  refine lv_iconst (v := 1) hx hb dL_law_744 (by decide) ?_
  refine lv_iadd hx hb dL_law_745 ?_
  refine kl_ld (k := 1) hC hX hbl hi hL hW (by decide) (by decide) dL_law_746 ?_
  refine lv_aload_n hx hb dL_law_747 rfl (lv_at hl 0 rfl) ?_
  refine lv_iload_n hx hb dL_law_748 rfl (lv_at hl 3 rfl) ?_
  refine lv_iconst (v := 2) hx hb dL_law_749 (by decide) ?_
  refine lv_iadd hx hb dL_law_750 ?_
  refine kl_ld (k := 2) hC hX hbl hi hL hW (by decide) (by decide) dL_law_751 ?_
  obtain ⟨v, u, w, h1, h2, hR⟩ := hs μ ν (xs (6 * i + 1)) (xs (6 * i + 2)) hRel
  refine kd_i hW (kd_run hC hW hl.1 (t_vs_lend h1) ⟨rfl, rfl⟩ cw_L_74 (wx_0 (gx D cs α) μ) rfl rfl rfl (Nat.le_of_ble_eq_true rfl) dL_law_752 ⟨Nat.le_of_ble_eq_true rfl, Nat.le_of_ble_eq_true rfl⟩ ⟨Nat.le_of_succ_le hcs.1, Nat.le_trans (Nat.le_add_right slots 5) hcs.2⟩) (fun H locs hW => ?_)
  have hW2 : wA (gx D cs β) (wm (gx D cs β) ν ++ wx (gx D cs α) u) (fun q => s.heap.size ≤ q) s.heap H locs := kd_swap hW
  refine lv_aload_n hx hb dL_law_755 rfl (lv_at hl 2 rfl) ?_
  refine lv_aload_n hx hb dL_law_756 rfl (lv_at hl 0 rfl) ?_
  refine lv_iload_n hx hb dL_law_757 rfl (lv_at hl 3 rfl) ?_
  refine lv_iconst (v := 1) hx hb dL_law_758 (by decide) ?_
  refine lv_iadd hx hb dL_law_759 ?_
  refine kl_ld (k := 1) hC hX hbl hi hL hW (by decide) (by decide) dL_law_760 ?_
  refine lv_aload_n hx hb dL_law_761 rfl (lv_at hl 0 rfl) ?_
  refine lv_iload_n hx hb dL_law_762 rfl (lv_at hl 3 rfl) ?_
  refine lv_iconst (v := 2) hx hb dL_law_763 (by decide) ?_
  refine lv_iadd hx hb dL_law_764 ?_
  refine kl_ld (k := 2) hC hX hbl hi hL hW (by decide) (by decide) dL_law_765 ?_
  have hC2 : Cx (gx D cs β) RL code 4 p s m #[Value.ref b] c := hC
  refine kd_i hW2 (kd_run hC2 hW2 hl.1 (t_md_lend h2) ⟨rfl, rfl⟩ cw_L_77 (wm_0 (gx D cs β) ν) rfl rfl rfl (Nat.le_of_ble_eq_true rfl) dL_law_766 ⟨Nat.le_of_ble_eq_true rfl, Nat.le_of_ble_eq_true rfl⟩ ⟨Nat.le_of_succ_le hcs.1, Nat.le_trans (Nat.le_add_right slots 5) hcs.2⟩) (fun H locs hW => ?_)
  refine lv_icmp_eq (tgt := 1751) hx hb dL_law_769 (by decide) (fun _ => ?_) (fun hc => absurd rfl hc)
  refine W.widen (k := cells + 1) (n := slots + 5) (Nat.le_succ _) (Nat.le_add_right _ _) ?_
  exact kk α u w rfl hR (kd_swap hW) hl
set_option maxHeartbeats 4000000 in
set_option maxRecDepth 100000 in
theorem lc_14 (hC : Cx (gx D cs α) RL code 4 p s m #[Value.ref b] c) (hX : va_X b L xs s s.heap) (hbl : b < s.heap.size) (hi : 6 * i + 6 ≤ L) (hL : L ≤ 3072) (hs : ST_back Rel) (hRel : Rel μ ν) (hcs : cells + 1 ≤ 600000 ∧ slots + 5 ≤ 7302250) (hW : wA (gx D cs α) (wx (gx D cs α) μ ++ wm (gx D cs β) ν) (fun q => s.heap.size ≤ q) s.heap H locs) (hl : lv_has ls 4 [(0, .ref b), (1, .ref (ad (gx D cs α) 0)), (2, .ref (ad (gx D cs β) 0)), (3, .int (nI (6 * i)))])
    (kk : ∀ {H : Heap} {locs : List Loc} {ls : Array Slot} (z : Nat → Nat) (μ ν : Mm), z 0 = ad (gx D cs α) 0 → Rel μ ν → wA (gx D cs α) (wx (gx D cs z) μ ++ wm (gx D cs β) ν) (fun q => s.heap.size ≤ q) s.heap H locs → lv_has ls 4 [(0, .ref b), (1, .ref (ad (gx D cs α) 0)), (2, .ref (ad (gx D cs β) 0)), (3, .int (nI (6 * i)))] → W p l e room_1 s m #[Value.ref b] below meth c H locs (cells + 1) (slots + 5) Q (F0 m 1751 ls [])) : W p l e room_1 s m #[Value.ref b] below meth c H locs cells slots Q (F0 m 774 ls []) := by
  obtain ⟨hx, hb, hml, hown, hts, hK, hN⟩ := id hC
  refine lv_aload_n hx hb dL_law_774 rfl (lv_at hl 1 rfl) ?_
  refine lv_aload_n hx hb dL_law_775 rfl (lv_at hl 0 rfl) ?_
  refine lv_iload_n hx hb dL_law_776 rfl (lv_at hl 3 rfl) ?_
  refine lv_iconst (v := 1) hx hb dL_law_777 (by decide) ?_
  refine lv_iadd hx hb dL_law_778 ?_
  refine kl_ld (k := 1) hC hX hbl hi hL hW (by decide) (by decide) dL_law_779 ?_
  refine lv_aload_n hx hb dL_law_780 rfl (lv_at hl 0 rfl) ?_
  refine lv_iload_n hx hb dL_law_781 rfl (lv_at hl 3 rfl) ?_
  refine lv_iconst (v := 2) hx hb dL_law_782 (by decide) ?_
  refine lv_iadd hx hb dL_law_783 ?_
  refine kl_ld (k := 2) hC hX hbl hi hL hW (by decide) (by decide) dL_law_784 ?_
  refine lv_aload_n hx hb dL_law_785 rfl (lv_at hl 0 rfl) ?_
  refine lv_iload_n hx hb dL_law_786 rfl (lv_at hl 3 rfl) ?_
  refine lv_iconst (v := 3) hx hb dL_law_787 (by decide) ?_
  refine lv_iadd hx hb dL_law_788 ?_
  refine kl_ld (k := 3) hC hX hbl hi hL hW (by decide) (by decide) dL_law_789 ?_
  obtain ⟨v, u, w, h1, h2, hR⟩ := hs μ ν (xs (6 * i + 1)) (xs (6 * i + 2)) (xs (6 * i + 3)) hRel
  refine kd_i hW (kd_run hC hW hl.1 (t_vs_back h1) ⟨rfl, rfl⟩ cw_L_78 (wx_0 (gx D cs α) μ) rfl rfl rfl (Nat.le_of_ble_eq_true rfl) dL_law_790 ⟨Nat.le_of_ble_eq_true rfl, Nat.le_of_ble_eq_true rfl⟩ ⟨Nat.le_of_succ_le hcs.1, Nat.le_trans (Nat.le_add_right slots 5) hcs.2⟩) (fun H locs hW => ?_)
  have hW2 : wA (gx D cs β) (wm (gx D cs β) ν ++ wx (gx D cs α) u) (fun q => s.heap.size ≤ q) s.heap H locs := kd_swap hW
  refine lv_aload_n hx hb dL_law_793 rfl (lv_at hl 2 rfl) ?_
  refine lv_aload_n hx hb dL_law_794 rfl (lv_at hl 0 rfl) ?_
  refine lv_iload_n hx hb dL_law_795 rfl (lv_at hl 3 rfl) ?_
  refine lv_iconst (v := 1) hx hb dL_law_796 (by decide) ?_
  refine lv_iadd hx hb dL_law_797 ?_
  refine kl_ld (k := 1) hC hX hbl hi hL hW (by decide) (by decide) dL_law_798 ?_
  refine lv_aload_n hx hb dL_law_799 rfl (lv_at hl 0 rfl) ?_
  refine lv_iload_n hx hb dL_law_800 rfl (lv_at hl 3 rfl) ?_
  refine lv_iconst (v := 2) hx hb dL_law_801 (by decide) ?_
  refine lv_iadd hx hb dL_law_802 ?_
  refine kl_ld (k := 2) hC hX hbl hi hL hW (by decide) (by decide) dL_law_803 ?_
  refine lv_aload_n hx hb dL_law_804 rfl (lv_at hl 0 rfl) ?_
  refine lv_iload_n hx hb dL_law_805 rfl (lv_at hl 3 rfl) ?_
  refine lv_iconst (v := 3) hx hb dL_law_806 (by decide) ?_
  refine lv_iadd hx hb dL_law_807 ?_
  refine kl_ld (k := 3) hC hX hbl hi hL hW (by decide) (by decide) dL_law_808 ?_
  have hC2 : Cx (gx D cs β) RL code 4 p s m #[Value.ref b] c := hC
  refine kd_i hW2 (kd_run hC2 hW2 hl.1 (t_md_back h2) ⟨rfl, rfl⟩ cw_L_81 (wm_0 (gx D cs β) ν) rfl rfl rfl (Nat.le_of_ble_eq_true rfl) dL_law_809 ⟨Nat.le_of_ble_eq_true rfl, Nat.le_of_ble_eq_true rfl⟩ ⟨Nat.le_of_succ_le hcs.1, Nat.le_trans (Nat.le_add_right slots 5) hcs.2⟩) (fun H locs hW => ?_)
  refine lv_icmp_eq (tgt := 1751) hx hb dL_law_812 (by decide) (fun _ => ?_) (fun hc => absurd rfl hc)
  refine W.widen (k := cells + 1) (n := slots + 5) (Nat.le_succ _) (Nat.le_add_right _ _) ?_
  exact kk α u w rfl hR (kd_swap hW) hl
set_option maxHeartbeats 4000000 in
set_option maxRecDepth 100000 in
theorem lc_15 (hC : Cx (gx D cs α) RL code 4 p s m #[Value.ref b] c) (hX : va_X b L xs s s.heap) (hbl : b < s.heap.size) (hi : 6 * i + 6 ≤ L) (hL : L ≤ 3072) (hs : ST_lost Rel) (hRel : Rel μ ν) (hcs : cells + 1 ≤ 600000 ∧ slots + 5 ≤ 7302250) (hW : wA (gx D cs α) (wx (gx D cs α) μ ++ wm (gx D cs β) ν) (fun q => s.heap.size ≤ q) s.heap H locs) (hl : lv_has ls 4 [(0, .ref b), (1, .ref (ad (gx D cs α) 0)), (2, .ref (ad (gx D cs β) 0)), (3, .int (nI (6 * i)))])
    (kk : ∀ {H : Heap} {locs : List Loc} {ls : Array Slot} (z : Nat → Nat) (μ ν : Mm), z 0 = ad (gx D cs α) 0 → Rel μ ν → wA (gx D cs α) (wx (gx D cs z) μ ++ wm (gx D cs β) ν) (fun q => s.heap.size ≤ q) s.heap H locs → lv_has ls 4 [(0, .ref b), (1, .ref (ad (gx D cs α) 0)), (2, .ref (ad (gx D cs β) 0)), (3, .int (nI (6 * i)))] → W p l e room_1 s m #[Value.ref b] below meth c H locs (cells + 1) (slots + 5) Q (F0 m 1751 ls [])) : W p l e room_1 s m #[Value.ref b] below meth c H locs cells slots Q (F0 m 817 ls []) := by
  obtain ⟨hx, hb, hml, hown, hts, hK, hN⟩ := id hC
  refine lv_aload_n hx hb dL_law_817 rfl (lv_at hl 1 rfl) ?_
  refine lv_aload_n hx hb dL_law_818 rfl (lv_at hl 0 rfl) ?_
  refine lv_iload_n hx hb dL_law_819 rfl (lv_at hl 3 rfl) ?_
  refine lv_iconst (v := 1) hx hb dL_law_820 (by decide) ?_
  refine lv_iadd hx hb dL_law_821 ?_
  refine kl_ld (k := 1) hC hX hbl hi hL hW (by decide) (by decide) dL_law_822 ?_
  obtain ⟨v, u, w, h1, h2, hR⟩ := hs μ ν (xs (6 * i + 1)) hRel
  refine kd_i hW (kd_run hC hW hl.1 (t_vs_lost h1) ⟨rfl, rfl⟩ cw_L_82 (wx_0 (gx D cs α) μ) rfl rfl rfl (Nat.le_of_ble_eq_true rfl) dL_law_823 ⟨Nat.le_of_ble_eq_true rfl, Nat.le_of_ble_eq_true rfl⟩ ⟨Nat.le_of_succ_le hcs.1, Nat.le_trans (Nat.le_add_right slots 5) hcs.2⟩) (fun H locs hW => ?_)
  have hW2 : wA (gx D cs β) (wm (gx D cs β) ν ++ wx (gx D cs α) u) (fun q => s.heap.size ≤ q) s.heap H locs := kd_swap hW
  refine lv_aload_n hx hb dL_law_826 rfl (lv_at hl 2 rfl) ?_
  refine lv_aload_n hx hb dL_law_827 rfl (lv_at hl 0 rfl) ?_
  refine lv_iload_n hx hb dL_law_828 rfl (lv_at hl 3 rfl) ?_
  refine lv_iconst (v := 1) hx hb dL_law_829 (by decide) ?_
  refine lv_iadd hx hb dL_law_830 ?_
  refine kl_ld (k := 1) hC hX hbl hi hL hW (by decide) (by decide) dL_law_831 ?_
  have hC2 : Cx (gx D cs β) RL code 4 p s m #[Value.ref b] c := hC
  refine kd_i hW2 (kd_run hC2 hW2 hl.1 (t_md_lost h2) ⟨rfl, rfl⟩ cw_L_85 (wm_0 (gx D cs β) ν) rfl rfl rfl (Nat.le_of_ble_eq_true rfl) dL_law_832 ⟨Nat.le_of_ble_eq_true rfl, Nat.le_of_ble_eq_true rfl⟩ ⟨Nat.le_of_succ_le hcs.1, Nat.le_trans (Nat.le_add_right slots 5) hcs.2⟩) (fun H locs hW => ?_)
  refine lv_icmp_eq (tgt := 1751) hx hb dL_law_835 (by decide) (fun _ => ?_) (fun hc => absurd rfl hc)
  refine W.widen (k := cells + 1) (n := slots + 5) (Nat.le_succ _) (Nat.le_add_right _ _) ?_
  exact kk α u w rfl hR (kd_swap hW) hl
set_option maxHeartbeats 4000000 in
set_option maxRecDepth 100000 in
theorem lc_16 (hC : Cx (gx D cs α) RL code 4 p s m #[Value.ref b] c) (hX : va_X b L xs s s.heap) (hbl : b < s.heap.size) (hi : 6 * i + 6 ≤ L) (hL : L ≤ 3072) (hs : ST_bookIs Rel) (hRel : Rel μ ν) (hcs : cells + 1 ≤ 600000 ∧ slots + 5 ≤ 7302250) (hW : wA (gx D cs α) (wx (gx D cs α) μ ++ wm (gx D cs β) ν) (fun q => s.heap.size ≤ q) s.heap H locs) (hl : lv_has ls 4 [(0, .ref b), (1, .ref (ad (gx D cs α) 0)), (2, .ref (ad (gx D cs β) 0)), (3, .int (nI (6 * i)))])
    (kk : ∀ {H : Heap} {locs : List Loc} {ls : Array Slot} (z : Nat → Nat) (μ ν : Mm), z 0 = ad (gx D cs α) 0 → Rel μ ν → wA (gx D cs α) (wx (gx D cs z) μ ++ wm (gx D cs β) ν) (fun q => s.heap.size ≤ q) s.heap H locs → lv_has ls 4 [(0, .ref b), (1, .ref (ad (gx D cs α) 0)), (2, .ref (ad (gx D cs β) 0)), (3, .int (nI (6 * i)))] → W p l e room_1 s m #[Value.ref b] below meth c H locs (cells + 1) (slots + 5) Q (F0 m 1751 ls [])) : W p l e room_1 s m #[Value.ref b] below meth c H locs cells slots Q (F0 m 840 ls []) := by
  obtain ⟨hx, hb, hml, hown, hts, hK, hN⟩ := id hC
  refine lv_aload_n hx hb dL_law_840 rfl (lv_at hl 1 rfl) ?_
  refine lv_aload_n hx hb dL_law_841 rfl (lv_at hl 0 rfl) ?_
  refine lv_iload_n hx hb dL_law_842 rfl (lv_at hl 3 rfl) ?_
  refine lv_iconst (v := 1) hx hb dL_law_843 (by decide) ?_
  refine lv_iadd hx hb dL_law_844 ?_
  refine kl_ld (k := 1) hC hX hbl hi hL hW (by decide) (by decide) dL_law_845 ?_
  refine lv_aload_n hx hb dL_law_846 rfl (lv_at hl 0 rfl) ?_
  refine lv_iload_n hx hb dL_law_847 rfl (lv_at hl 3 rfl) ?_
  refine lv_iconst (v := 2) hx hb dL_law_848 (by decide) ?_
  refine lv_iadd hx hb dL_law_849 ?_
  refine kl_ld (k := 2) hC hX hbl hi hL hW (by decide) (by decide) dL_law_850 ?_
  obtain ⟨v, h1, h2, hR⟩ := hs μ ν (xs (6 * i + 1)) (xs (6 * i + 2)) hRel
  refine kd_i hW (kd_run hC hW hl.1 (t_vs_bookIs h1) ⟨rfl, rfl⟩ cw_L_86 (wx_0 (gx D cs α) μ) rfl rfl rfl (Nat.le_of_ble_eq_true rfl) dL_law_851 ⟨Nat.le_of_ble_eq_true rfl, Nat.le_of_ble_eq_true rfl⟩ ⟨Nat.le_of_succ_le hcs.1, Nat.le_trans (Nat.le_add_right slots 5) hcs.2⟩) (fun H locs hW => ?_)
  have hW2 : wA (gx D cs β) (wm (gx D cs β) ν ++ wx (gx D cs α) μ) (fun q => s.heap.size ≤ q) s.heap H locs := kd_swap hW
  refine lv_aload_n hx hb dL_law_854 rfl (lv_at hl 2 rfl) ?_
  refine lv_aload_n hx hb dL_law_855 rfl (lv_at hl 0 rfl) ?_
  refine lv_iload_n hx hb dL_law_856 rfl (lv_at hl 3 rfl) ?_
  refine lv_iconst (v := 1) hx hb dL_law_857 (by decide) ?_
  refine lv_iadd hx hb dL_law_858 ?_
  refine kl_ld (k := 1) hC hX hbl hi hL hW (by decide) (by decide) dL_law_859 ?_
  refine lv_aload_n hx hb dL_law_860 rfl (lv_at hl 0 rfl) ?_
  refine lv_iload_n hx hb dL_law_861 rfl (lv_at hl 3 rfl) ?_
  refine lv_iconst (v := 2) hx hb dL_law_862 (by decide) ?_
  refine lv_iadd hx hb dL_law_863 ?_
  refine kl_ld (k := 2) hC hX hbl hi hL hW (by decide) (by decide) dL_law_864 ?_
  have hC2 : Cx (gx D cs β) RL code 4 p s m #[Value.ref b] c := hC
  refine kd_i hW2 (kd_run hC2 hW2 hl.1 (t_md_bookIs h2) ⟨rfl, rfl⟩ cw_L_89 (wm_0 (gx D cs β) ν) rfl rfl rfl (Nat.le_of_ble_eq_true rfl) dL_law_865 ⟨Nat.le_of_ble_eq_true rfl, Nat.le_of_ble_eq_true rfl⟩ ⟨Nat.le_of_succ_le hcs.1, Nat.le_trans (Nat.le_add_right slots 5) hcs.2⟩) (fun H locs hW => ?_)
  refine lv_icmp_eq (tgt := 1751) hx hb dL_law_868 (by decide) (fun _ => ?_) (fun hc => absurd rfl hc)
  refine W.widen (k := cells + 1) (n := slots + 5) (Nat.le_succ _) (Nat.le_add_right _ _) ?_
  exact kk α μ ν rfl hR (kd_swap hW) hl
set_option maxHeartbeats 4000000 in
set_option maxRecDepth 100000 in
theorem lc_17 (hC : Cx (gx D cs α) RL code 4 p s m #[Value.ref b] c) (hX : va_X b L xs s s.heap) (hbl : b < s.heap.size) (hi : 6 * i + 6 ≤ L) (hL : L ≤ 3072) (hs : ST_readerIs Rel) (hRel : Rel μ ν) (hcs : cells + 1 ≤ 600000 ∧ slots + 5 ≤ 7302250) (hW : wA (gx D cs α) (wx (gx D cs α) μ ++ wm (gx D cs β) ν) (fun q => s.heap.size ≤ q) s.heap H locs) (hl : lv_has ls 4 [(0, .ref b), (1, .ref (ad (gx D cs α) 0)), (2, .ref (ad (gx D cs β) 0)), (3, .int (nI (6 * i)))])
    (kk : ∀ {H : Heap} {locs : List Loc} {ls : Array Slot} (z : Nat → Nat) (μ ν : Mm), z 0 = ad (gx D cs α) 0 → Rel μ ν → wA (gx D cs α) (wx (gx D cs z) μ ++ wm (gx D cs β) ν) (fun q => s.heap.size ≤ q) s.heap H locs → lv_has ls 4 [(0, .ref b), (1, .ref (ad (gx D cs α) 0)), (2, .ref (ad (gx D cs β) 0)), (3, .int (nI (6 * i)))] → W p l e room_1 s m #[Value.ref b] below meth c H locs (cells + 1) (slots + 5) Q (F0 m 1751 ls [])) : W p l e room_1 s m #[Value.ref b] below meth c H locs cells slots Q (F0 m 873 ls []) := by
  obtain ⟨hx, hb, hml, hown, hts, hK, hN⟩ := id hC
  refine lv_aload_n hx hb dL_law_873 rfl (lv_at hl 1 rfl) ?_
  refine lv_aload_n hx hb dL_law_874 rfl (lv_at hl 0 rfl) ?_
  refine lv_iload_n hx hb dL_law_875 rfl (lv_at hl 3 rfl) ?_
  refine lv_iconst (v := 1) hx hb dL_law_876 (by decide) ?_
  refine lv_iadd hx hb dL_law_877 ?_
  refine kl_ld (k := 1) hC hX hbl hi hL hW (by decide) (by decide) dL_law_878 ?_
  refine lv_aload_n hx hb dL_law_879 rfl (lv_at hl 0 rfl) ?_
  refine lv_iload_n hx hb dL_law_880 rfl (lv_at hl 3 rfl) ?_
  refine lv_iconst (v := 2) hx hb dL_law_881 (by decide) ?_
  refine lv_iadd hx hb dL_law_882 ?_
  refine kl_ld (k := 2) hC hX hbl hi hL hW (by decide) (by decide) dL_law_883 ?_
  obtain ⟨v, h1, h2, hR⟩ := hs μ ν (xs (6 * i + 1)) (xs (6 * i + 2)) hRel
  refine kd_i hW (kd_run hC hW hl.1 (t_vs_readerIs h1) ⟨rfl, rfl⟩ cw_L_90 (wx_0 (gx D cs α) μ) rfl rfl rfl (Nat.le_of_ble_eq_true rfl) dL_law_884 ⟨Nat.le_of_ble_eq_true rfl, Nat.le_of_ble_eq_true rfl⟩ ⟨Nat.le_of_succ_le hcs.1, Nat.le_trans (Nat.le_add_right slots 5) hcs.2⟩) (fun H locs hW => ?_)
  have hW2 : wA (gx D cs β) (wm (gx D cs β) ν ++ wx (gx D cs α) μ) (fun q => s.heap.size ≤ q) s.heap H locs := kd_swap hW
  refine lv_aload_n hx hb dL_law_887 rfl (lv_at hl 2 rfl) ?_
  refine lv_aload_n hx hb dL_law_888 rfl (lv_at hl 0 rfl) ?_
  refine lv_iload_n hx hb dL_law_889 rfl (lv_at hl 3 rfl) ?_
  refine lv_iconst (v := 1) hx hb dL_law_890 (by decide) ?_
  refine lv_iadd hx hb dL_law_891 ?_
  refine kl_ld (k := 1) hC hX hbl hi hL hW (by decide) (by decide) dL_law_892 ?_
  refine lv_aload_n hx hb dL_law_893 rfl (lv_at hl 0 rfl) ?_
  refine lv_iload_n hx hb dL_law_894 rfl (lv_at hl 3 rfl) ?_
  refine lv_iconst (v := 2) hx hb dL_law_895 (by decide) ?_
  refine lv_iadd hx hb dL_law_896 ?_
  refine kl_ld (k := 2) hC hX hbl hi hL hW (by decide) (by decide) dL_law_897 ?_
  have hC2 : Cx (gx D cs β) RL code 4 p s m #[Value.ref b] c := hC
  refine kd_i hW2 (kd_run hC2 hW2 hl.1 (t_md_readerIs h2) ⟨rfl, rfl⟩ cw_L_93 (wm_0 (gx D cs β) ν) rfl rfl rfl (Nat.le_of_ble_eq_true rfl) dL_law_898 ⟨Nat.le_of_ble_eq_true rfl, Nat.le_of_ble_eq_true rfl⟩ ⟨Nat.le_of_succ_le hcs.1, Nat.le_trans (Nat.le_add_right slots 5) hcs.2⟩) (fun H locs hW => ?_)
  refine lv_icmp_eq (tgt := 1751) hx hb dL_law_901 (by decide) (fun _ => ?_) (fun hc => absurd rfl hc)
  refine W.widen (k := cells + 1) (n := slots + 5) (Nat.le_succ _) (Nat.le_add_right _ _) ?_
  exact kk α μ ν rfl hR (kd_swap hW) hl
set_option maxHeartbeats 4000000 in
set_option maxRecDepth 100000 in
theorem lc_18 (hC : Cx (gx D cs α) RL code 4 p s m #[Value.ref b] c) (hX : va_X b L xs s s.heap) (hbl : b < s.heap.size) (hi : 6 * i + 6 ≤ L) (hL : L ≤ 3072) (hs : ST_pays Rel) (hRel : Rel μ ν) (hcs : cells + 1 ≤ 600000 ∧ slots + 5 ≤ 7302250) (hW : wA (gx D cs α) (wx (gx D cs α) μ ++ wm (gx D cs β) ν) (fun q => s.heap.size ≤ q) s.heap H locs) (hl : lv_has ls 4 [(0, .ref b), (1, .ref (ad (gx D cs α) 0)), (2, .ref (ad (gx D cs β) 0)), (3, .int (nI (6 * i)))])
    (kk : ∀ {H : Heap} {locs : List Loc} {ls : Array Slot} (z : Nat → Nat) (μ ν : Mm), z 0 = ad (gx D cs α) 0 → Rel μ ν → wA (gx D cs α) (wx (gx D cs z) μ ++ wm (gx D cs β) ν) (fun q => s.heap.size ≤ q) s.heap H locs → lv_has ls 4 [(0, .ref b), (1, .ref (ad (gx D cs α) 0)), (2, .ref (ad (gx D cs β) 0)), (3, .int (nI (6 * i)))] → W p l e room_1 s m #[Value.ref b] below meth c H locs (cells + 1) (slots + 5) Q (F0 m 1751 ls [])) : W p l e room_1 s m #[Value.ref b] below meth c H locs cells slots Q (F0 m 906 ls []) := by
  obtain ⟨hx, hb, hml, hown, hts, hK, hN⟩ := id hC
  refine lv_aload_n hx hb dL_law_906 rfl (lv_at hl 1 rfl) ?_
  refine lv_aload_n hx hb dL_law_907 rfl (lv_at hl 0 rfl) ?_
  refine lv_iload_n hx hb dL_law_908 rfl (lv_at hl 3 rfl) ?_
  refine lv_iconst (v := 1) hx hb dL_law_909 (by decide) ?_
  refine lv_iadd hx hb dL_law_910 ?_
  refine kl_ld (k := 1) hC hX hbl hi hL hW (by decide) (by decide) dL_law_911 ?_
  refine lv_aload_n hx hb dL_law_912 rfl (lv_at hl 0 rfl) ?_
  refine lv_iload_n hx hb dL_law_913 rfl (lv_at hl 3 rfl) ?_
  refine lv_iconst (v := 2) hx hb dL_law_914 (by decide) ?_
  refine lv_iadd hx hb dL_law_915 ?_
  refine kl_ld (k := 2) hC hX hbl hi hL hW (by decide) (by decide) dL_law_916 ?_
  obtain ⟨v, u, w, h1, h2, hR⟩ := hs μ ν (xs (6 * i + 1)) (xs (6 * i + 2)) hRel
  refine kd_i hW (kd_run hC hW hl.1 (t_vs_pays h1) ⟨rfl, rfl⟩ cw_L_94 (wx_0 (gx D cs α) μ) rfl rfl rfl (Nat.le_of_ble_eq_true rfl) dL_law_917 ⟨Nat.le_of_ble_eq_true rfl, Nat.le_of_ble_eq_true rfl⟩ ⟨Nat.le_of_succ_le hcs.1, Nat.le_trans (Nat.le_add_right slots 5) hcs.2⟩) (fun H locs hW => ?_)
  have hW2 : wA (gx D cs β) (wm (gx D cs β) ν ++ wx (gx D cs α) u) (fun q => s.heap.size ≤ q) s.heap H locs := kd_swap hW
  refine lv_aload_n hx hb dL_law_920 rfl (lv_at hl 2 rfl) ?_
  refine lv_aload_n hx hb dL_law_921 rfl (lv_at hl 0 rfl) ?_
  refine lv_iload_n hx hb dL_law_922 rfl (lv_at hl 3 rfl) ?_
  refine lv_iconst (v := 1) hx hb dL_law_923 (by decide) ?_
  refine lv_iadd hx hb dL_law_924 ?_
  refine kl_ld (k := 1) hC hX hbl hi hL hW (by decide) (by decide) dL_law_925 ?_
  refine lv_aload_n hx hb dL_law_926 rfl (lv_at hl 0 rfl) ?_
  refine lv_iload_n hx hb dL_law_927 rfl (lv_at hl 3 rfl) ?_
  refine lv_iconst (v := 2) hx hb dL_law_928 (by decide) ?_
  refine lv_iadd hx hb dL_law_929 ?_
  refine kl_ld (k := 2) hC hX hbl hi hL hW (by decide) (by decide) dL_law_930 ?_
  have hC2 : Cx (gx D cs β) RL code 4 p s m #[Value.ref b] c := hC
  refine kd_i hW2 (kd_run hC2 hW2 hl.1 (t_md_pays h2) ⟨rfl, rfl⟩ cw_L_97 (wm_0 (gx D cs β) ν) rfl rfl rfl (Nat.le_of_ble_eq_true rfl) dL_law_931 ⟨Nat.le_of_ble_eq_true rfl, Nat.le_of_ble_eq_true rfl⟩ ⟨Nat.le_of_succ_le hcs.1, Nat.le_trans (Nat.le_add_right slots 5) hcs.2⟩) (fun H locs hW => ?_)
  refine lv_icmp_eq (tgt := 1751) hx hb dL_law_934 (by decide) (fun _ => ?_) (fun hc => absurd rfl hc)
  refine W.widen (k := cells + 1) (n := slots + 5) (Nat.le_succ _) (Nat.le_add_right _ _) ?_
  exact kk α u w rfl hR (kd_swap hW) hl
set_option maxHeartbeats 4000000 in
set_option maxRecDepth 100000 in
theorem lc_19 (hC : Cx (gx D cs α) RL code 4 p s m #[Value.ref b] c) (hX : va_X b L xs s s.heap) (hbl : b < s.heap.size) (hi : 6 * i + 6 ≤ L) (hL : L ≤ 3072) (hs : ST_ask Rel) (hRel : Rel μ ν) (hcs : cells + 1 ≤ 600000 ∧ slots + 5 ≤ 7302250) (hW : wA (gx D cs α) (wx (gx D cs α) μ ++ wm (gx D cs β) ν) (fun q => s.heap.size ≤ q) s.heap H locs) (hl : lv_has ls 4 [(0, .ref b), (1, .ref (ad (gx D cs α) 0)), (2, .ref (ad (gx D cs β) 0)), (3, .int (nI (6 * i)))])
    (kk : ∀ {H : Heap} {locs : List Loc} {ls : Array Slot} (z : Nat → Nat) (μ ν : Mm), z 0 = ad (gx D cs α) 0 → Rel μ ν → wA (gx D cs α) (wx (gx D cs z) μ ++ wm (gx D cs β) ν) (fun q => s.heap.size ≤ q) s.heap H locs → lv_has ls 4 [(0, .ref b), (1, .ref (ad (gx D cs α) 0)), (2, .ref (ad (gx D cs β) 0)), (3, .int (nI (6 * i)))] → W p l e room_1 s m #[Value.ref b] below meth c H locs (cells + 1) (slots + 5) Q (F0 m 1751 ls [])) : W p l e room_1 s m #[Value.ref b] below meth c H locs cells slots Q (F0 m 939 ls []) := by
  obtain ⟨hx, hb, hml, hown, hts, hK, hN⟩ := id hC
  refine lv_aload_n hx hb dL_law_939 rfl (lv_at hl 1 rfl) ?_
  refine lv_aload_n hx hb dL_law_940 rfl (lv_at hl 0 rfl) ?_
  refine lv_iload_n hx hb dL_law_941 rfl (lv_at hl 3 rfl) ?_
  refine lv_iconst (v := 1) hx hb dL_law_942 (by decide) ?_
  refine lv_iadd hx hb dL_law_943 ?_
  refine kl_ld (k := 1) hC hX hbl hi hL hW (by decide) (by decide) dL_law_944 ?_
  refine lv_aload_n hx hb dL_law_945 rfl (lv_at hl 0 rfl) ?_
  refine lv_iload_n hx hb dL_law_946 rfl (lv_at hl 3 rfl) ?_
  refine lv_iconst (v := 2) hx hb dL_law_947 (by decide) ?_
  refine lv_iadd hx hb dL_law_948 ?_
  refine kl_ld (k := 2) hC hX hbl hi hL hW (by decide) (by decide) dL_law_949 ?_
  refine lv_aload_n hx hb dL_law_950 rfl (lv_at hl 0 rfl) ?_
  refine lv_iload_n hx hb dL_law_951 rfl (lv_at hl 3 rfl) ?_
  refine lv_iconst (v := 3) hx hb dL_law_952 (by decide) ?_
  refine lv_iadd hx hb dL_law_953 ?_
  refine kl_ld (k := 3) hC hX hbl hi hL hW (by decide) (by decide) dL_law_954 ?_
  obtain ⟨v, u, w, h1, h2, hR⟩ := hs μ ν (xs (6 * i + 1)) (xs (6 * i + 2)) (xs (6 * i + 3)) hRel
  refine kd_i hW (kd_run hC hW hl.1 (t_vs_ask h1) ⟨rfl, rfl⟩ cw_L_98 (wx_0 (gx D cs α) μ) rfl rfl rfl (Nat.le_of_ble_eq_true rfl) dL_law_955 ⟨Nat.le_of_ble_eq_true rfl, Nat.le_of_ble_eq_true rfl⟩ ⟨Nat.le_of_succ_le hcs.1, Nat.le_trans (Nat.le_add_right slots 5) hcs.2⟩) (fun H locs hW => ?_)
  have hW2 : wA (gx D cs β) (wm (gx D cs β) ν ++ wx (gx D cs α) u) (fun q => s.heap.size ≤ q) s.heap H locs := kd_swap hW
  refine lv_aload_n hx hb dL_law_958 rfl (lv_at hl 2 rfl) ?_
  refine lv_aload_n hx hb dL_law_959 rfl (lv_at hl 0 rfl) ?_
  refine lv_iload_n hx hb dL_law_960 rfl (lv_at hl 3 rfl) ?_
  refine lv_iconst (v := 1) hx hb dL_law_961 (by decide) ?_
  refine lv_iadd hx hb dL_law_962 ?_
  refine kl_ld (k := 1) hC hX hbl hi hL hW (by decide) (by decide) dL_law_963 ?_
  refine lv_aload_n hx hb dL_law_964 rfl (lv_at hl 0 rfl) ?_
  refine lv_iload_n hx hb dL_law_965 rfl (lv_at hl 3 rfl) ?_
  refine lv_iconst (v := 2) hx hb dL_law_966 (by decide) ?_
  refine lv_iadd hx hb dL_law_967 ?_
  refine kl_ld (k := 2) hC hX hbl hi hL hW (by decide) (by decide) dL_law_968 ?_
  refine lv_aload_n hx hb dL_law_969 rfl (lv_at hl 0 rfl) ?_
  refine lv_iload_n hx hb dL_law_970 rfl (lv_at hl 3 rfl) ?_
  refine lv_iconst (v := 3) hx hb dL_law_971 (by decide) ?_
  refine lv_iadd hx hb dL_law_972 ?_
  refine kl_ld (k := 3) hC hX hbl hi hL hW (by decide) (by decide) dL_law_973 ?_
  have hC2 : Cx (gx D cs β) RL code 4 p s m #[Value.ref b] c := hC
  refine kd_i hW2 (kd_run hC2 hW2 hl.1 (t_md_ask h2) ⟨rfl, rfl⟩ cw_L_101 (wm_0 (gx D cs β) ν) rfl rfl rfl (Nat.le_of_ble_eq_true rfl) dL_law_974 ⟨Nat.le_of_ble_eq_true rfl, Nat.le_of_ble_eq_true rfl⟩ ⟨Nat.le_of_succ_le hcs.1, Nat.le_trans (Nat.le_add_right slots 5) hcs.2⟩) (fun H locs hW => ?_)
  refine lv_icmp_eq (tgt := 1751) hx hb dL_law_977 (by decide) (fun _ => ?_) (fun hc => absurd rfl hc)
  refine W.widen (k := cells + 1) (n := slots + 5) (Nat.le_succ _) (Nat.le_add_right _ _) ?_
  exact kk α u w rfl hR (kd_swap hW) hl
set_option maxHeartbeats 4000000 in
set_option maxRecDepth 100000 in
theorem lc_20 (hC : Cx (gx D cs α) RL code 4 p s m #[Value.ref b] c) (hX : va_X b L xs s s.heap) (hbl : b < s.heap.size) (hi : 6 * i + 6 ≤ L) (hL : L ≤ 3072) (hs : ST_unask Rel) (hRel : Rel μ ν) (hcs : cells + 1 ≤ 600000 ∧ slots + 5 ≤ 7302250) (hW : wA (gx D cs α) (wx (gx D cs α) μ ++ wm (gx D cs β) ν) (fun q => s.heap.size ≤ q) s.heap H locs) (hl : lv_has ls 4 [(0, .ref b), (1, .ref (ad (gx D cs α) 0)), (2, .ref (ad (gx D cs β) 0)), (3, .int (nI (6 * i)))])
    (kk : ∀ {H : Heap} {locs : List Loc} {ls : Array Slot} (z : Nat → Nat) (μ ν : Mm), z 0 = ad (gx D cs α) 0 → Rel μ ν → wA (gx D cs α) (wx (gx D cs z) μ ++ wm (gx D cs β) ν) (fun q => s.heap.size ≤ q) s.heap H locs → lv_has ls 4 [(0, .ref b), (1, .ref (ad (gx D cs α) 0)), (2, .ref (ad (gx D cs β) 0)), (3, .int (nI (6 * i)))] → W p l e room_1 s m #[Value.ref b] below meth c H locs (cells + 1) (slots + 5) Q (F0 m 1751 ls [])) : W p l e room_1 s m #[Value.ref b] below meth c H locs cells slots Q (F0 m 982 ls []) := by
  obtain ⟨hx, hb, hml, hown, hts, hK, hN⟩ := id hC
  refine lv_aload_n hx hb dL_law_982 rfl (lv_at hl 1 rfl) ?_
  refine lv_aload_n hx hb dL_law_983 rfl (lv_at hl 0 rfl) ?_
  refine lv_iload_n hx hb dL_law_984 rfl (lv_at hl 3 rfl) ?_
  refine lv_iconst (v := 1) hx hb dL_law_985 (by decide) ?_
  refine lv_iadd hx hb dL_law_986 ?_
  refine kl_ld (k := 1) hC hX hbl hi hL hW (by decide) (by decide) dL_law_987 ?_
  refine lv_aload_n hx hb dL_law_988 rfl (lv_at hl 0 rfl) ?_
  refine lv_iload_n hx hb dL_law_989 rfl (lv_at hl 3 rfl) ?_
  refine lv_iconst (v := 2) hx hb dL_law_990 (by decide) ?_
  refine lv_iadd hx hb dL_law_991 ?_
  refine kl_ld (k := 2) hC hX hbl hi hL hW (by decide) (by decide) dL_law_992 ?_
  obtain ⟨v, u, w, h1, h2, hR⟩ := hs μ ν (xs (6 * i + 1)) (xs (6 * i + 2)) hRel
  refine kd_i hW (kd_run hC hW hl.1 (t_vs_unask h1) ⟨rfl, rfl⟩ cw_L_102 (wx_0 (gx D cs α) μ) rfl rfl rfl (Nat.le_of_ble_eq_true rfl) dL_law_993 ⟨Nat.le_of_ble_eq_true rfl, Nat.le_of_ble_eq_true rfl⟩ ⟨Nat.le_of_succ_le hcs.1, Nat.le_trans (Nat.le_add_right slots 5) hcs.2⟩) (fun H locs hW => ?_)
  have hW2 : wA (gx D cs β) (wm (gx D cs β) ν ++ wx (gx D cs α) u) (fun q => s.heap.size ≤ q) s.heap H locs := kd_swap hW
  refine lv_aload_n hx hb dL_law_996 rfl (lv_at hl 2 rfl) ?_
  refine lv_aload_n hx hb dL_law_997 rfl (lv_at hl 0 rfl) ?_
  refine lv_iload_n hx hb dL_law_998 rfl (lv_at hl 3 rfl) ?_
  refine lv_iconst (v := 1) hx hb dL_law_999 (by decide) ?_
  refine lv_iadd hx hb dL_law_1000 ?_
  refine kl_ld (k := 1) hC hX hbl hi hL hW (by decide) (by decide) dL_law_1001 ?_
  refine lv_aload_n hx hb dL_law_1002 rfl (lv_at hl 0 rfl) ?_
  refine lv_iload_n hx hb dL_law_1003 rfl (lv_at hl 3 rfl) ?_
  refine lv_iconst (v := 2) hx hb dL_law_1004 (by decide) ?_
  refine lv_iadd hx hb dL_law_1005 ?_
  refine kl_ld (k := 2) hC hX hbl hi hL hW (by decide) (by decide) dL_law_1006 ?_
  have hC2 : Cx (gx D cs β) RL code 4 p s m #[Value.ref b] c := hC
  refine kd_i hW2 (kd_run hC2 hW2 hl.1 (t_md_unask h2) ⟨rfl, rfl⟩ cw_L_105 (wm_0 (gx D cs β) ν) rfl rfl rfl (Nat.le_of_ble_eq_true rfl) dL_law_1007 ⟨Nat.le_of_ble_eq_true rfl, Nat.le_of_ble_eq_true rfl⟩ ⟨Nat.le_of_succ_le hcs.1, Nat.le_trans (Nat.le_add_right slots 5) hcs.2⟩) (fun H locs hW => ?_)
  refine lv_icmp_eq (tgt := 1751) hx hb dL_law_1010 (by decide) (fun _ => ?_) (fun hc => absurd rfl hc)
  refine W.widen (k := cells + 1) (n := slots + 5) (Nat.le_succ _) (Nat.le_add_right _ _) ?_
  exact kk α u w rfl hR (kd_swap hW) hl
set_option maxHeartbeats 4000000 in
set_option maxRecDepth 100000 in
theorem lc_21 (hC : Cx (gx D cs α) RL code 4 p s m #[Value.ref b] c) (hX : va_X b L xs s s.heap) (hbl : b < s.heap.size) (hi : 6 * i + 6 ≤ L) (hL : L ≤ 3072) (hs : ST_aboard Rel) (hRel : Rel μ ν) (hcs : cells + 1 ≤ 600000 ∧ slots + 5 ≤ 7302250) (hW : wA (gx D cs α) (wx (gx D cs α) μ ++ wm (gx D cs β) ν) (fun q => s.heap.size ≤ q) s.heap H locs) (hl : lv_has ls 4 [(0, .ref b), (1, .ref (ad (gx D cs α) 0)), (2, .ref (ad (gx D cs β) 0)), (3, .int (nI (6 * i)))])
    (kk : ∀ {H : Heap} {locs : List Loc} {ls : Array Slot} (z : Nat → Nat) (μ ν : Mm), z 0 = ad (gx D cs α) 0 → Rel μ ν → wA (gx D cs α) (wx (gx D cs z) μ ++ wm (gx D cs β) ν) (fun q => s.heap.size ≤ q) s.heap H locs → lv_has ls 4 [(0, .ref b), (1, .ref (ad (gx D cs α) 0)), (2, .ref (ad (gx D cs β) 0)), (3, .int (nI (6 * i)))] → W p l e room_1 s m #[Value.ref b] below meth c H locs (cells + 1) (slots + 5) Q (F0 m 1751 ls [])) : W p l e room_1 s m #[Value.ref b] below meth c H locs cells slots Q (F0 m 1015 ls []) := by
  obtain ⟨hx, hb, hml, hown, hts, hK, hN⟩ := id hC
  refine lv_aload_n hx hb dL_law_1015 rfl (lv_at hl 1 rfl) ?_
  refine lv_aload_n hx hb dL_law_1016 rfl (lv_at hl 0 rfl) ?_
  refine lv_iload_n hx hb dL_law_1017 rfl (lv_at hl 3 rfl) ?_
  refine lv_iconst (v := 1) hx hb dL_law_1018 (by decide) ?_
  refine lv_iadd hx hb dL_law_1019 ?_
  refine kl_ld (k := 1) hC hX hbl hi hL hW (by decide) (by decide) dL_law_1020 ?_
  refine lv_aload_n hx hb dL_law_1021 rfl (lv_at hl 0 rfl) ?_
  refine lv_iload_n hx hb dL_law_1022 rfl (lv_at hl 3 rfl) ?_
  refine lv_iconst (v := 2) hx hb dL_law_1023 (by decide) ?_
  refine lv_iadd hx hb dL_law_1024 ?_
  refine kl_ld (k := 2) hC hX hbl hi hL hW (by decide) (by decide) dL_law_1025 ?_
  obtain ⟨v, h1, h2, hR⟩ := hs μ ν (xs (6 * i + 1)) (xs (6 * i + 2)) hRel
  refine kd_l hW (kd_run hC hW hl.1 (t_vs_aboard h1) ⟨rfl, rfl⟩ cw_L_106 (wx_0 (gx D cs α) μ) rfl rfl rfl (Nat.le_of_ble_eq_true rfl) dL_law_1026 ⟨Nat.le_of_ble_eq_true rfl, Nat.le_of_ble_eq_true rfl⟩ ⟨Nat.le_of_succ_le hcs.1, Nat.le_trans (Nat.le_add_right slots 5) hcs.2⟩) (fun H locs hW => ?_)
  have hW2 : wA (gx D cs β) (wm (gx D cs β) ν ++ wx (gx D cs α) μ) (fun q => s.heap.size ≤ q) s.heap H locs := kd_swap hW
  refine lv_aload_n hx hb dL_law_1029 rfl (lv_at hl 2 rfl) ?_
  refine lv_aload_n hx hb dL_law_1030 rfl (lv_at hl 0 rfl) ?_
  refine lv_iload_n hx hb dL_law_1031 rfl (lv_at hl 3 rfl) ?_
  refine lv_iconst (v := 1) hx hb dL_law_1032 (by decide) ?_
  refine lv_iadd hx hb dL_law_1033 ?_
  refine kl_ld (k := 1) hC hX hbl hi hL hW (by decide) (by decide) dL_law_1034 ?_
  refine lv_aload_n hx hb dL_law_1035 rfl (lv_at hl 0 rfl) ?_
  refine lv_iload_n hx hb dL_law_1036 rfl (lv_at hl 3 rfl) ?_
  refine lv_iconst (v := 2) hx hb dL_law_1037 (by decide) ?_
  refine lv_iadd hx hb dL_law_1038 ?_
  refine kl_ld (k := 2) hC hX hbl hi hL hW (by decide) (by decide) dL_law_1039 ?_
  have hC2 : Cx (gx D cs β) RL code 4 p s m #[Value.ref b] c := hC
  refine kd_l hW2 (kd_run hC2 hW2 hl.1 (t_md_aboard h2) ⟨rfl, rfl⟩ cw_L_110 (wm_0 (gx D cs β) ν) rfl rfl rfl (Nat.le_of_ble_eq_true rfl) dL_law_1040 ⟨Nat.le_of_ble_eq_true rfl, Nat.le_of_ble_eq_true rfl⟩ ⟨Nat.le_of_succ_le hcs.1, Nat.le_trans (Nat.le_add_right slots 5) hcs.2⟩) (fun H locs hW => ?_)
  refine W.lcmp hx hb dL_law_1043 ?_
  refine lv_if_eq (tgt := 1751) hx hb dL_law_1044 (by decide) (fun _ => ?_) (fun hc => absurd (lg_cmp_self _) hc)
  refine W.widen (k := cells + 1) (n := slots + 5) (Nat.le_succ _) (Nat.le_add_right _ _) ?_
  exact kk α μ ν rfl hR (kd_swap hW) hl
set_option maxHeartbeats 4000000 in
set_option maxRecDepth 100000 in
theorem lc_22 (hC : Cx (gx D cs α) RL code 4 p s m #[Value.ref b] c) (hX : va_X b L xs s s.heap) (hbl : b < s.heap.size) (hi : 6 * i + 6 ≤ L) (hL : L ≤ 3072) (hs : ST_promise Rel) (hRel : Rel μ ν) (hcs : cells + 1 ≤ 600000 ∧ slots + 5 ≤ 7302250) (hW : wA (gx D cs α) (wx (gx D cs α) μ ++ wm (gx D cs β) ν) (fun q => s.heap.size ≤ q) s.heap H locs) (hl : lv_has ls 4 [(0, .ref b), (1, .ref (ad (gx D cs α) 0)), (2, .ref (ad (gx D cs β) 0)), (3, .int (nI (6 * i)))])
    (kk : ∀ {H : Heap} {locs : List Loc} {ls : Array Slot} (z : Nat → Nat) (μ ν : Mm), z 0 = ad (gx D cs α) 0 → Rel μ ν → wA (gx D cs α) (wx (gx D cs z) μ ++ wm (gx D cs β) ν) (fun q => s.heap.size ≤ q) s.heap H locs → lv_has ls 4 [(0, .ref b), (1, .ref (ad (gx D cs α) 0)), (2, .ref (ad (gx D cs β) 0)), (3, .int (nI (6 * i)))] → W p l e room_1 s m #[Value.ref b] below meth c H locs (cells + 1) (slots + 5) Q (F0 m 1751 ls [])) : W p l e room_1 s m #[Value.ref b] below meth c H locs cells slots Q (F0 m 1049 ls []) := by
  obtain ⟨hx, hb, hml, hown, hts, hK, hN⟩ := id hC
  refine lv_aload_n hx hb dL_law_1049 rfl (lv_at hl 1 rfl) ?_
  refine lv_aload_n hx hb dL_law_1050 rfl (lv_at hl 0 rfl) ?_
  refine lv_iload_n hx hb dL_law_1051 rfl (lv_at hl 3 rfl) ?_
  refine lv_iconst (v := 1) hx hb dL_law_1052 (by decide) ?_
  refine lv_iadd hx hb dL_law_1053 ?_
  refine kl_ld (k := 1) hC hX hbl hi hL hW (by decide) (by decide) dL_law_1054 ?_
  refine lv_aload_n hx hb dL_law_1055 rfl (lv_at hl 0 rfl) ?_
  refine lv_iload_n hx hb dL_law_1056 rfl (lv_at hl 3 rfl) ?_
  refine lv_iconst (v := 2) hx hb dL_law_1057 (by decide) ?_
  refine lv_iadd hx hb dL_law_1058 ?_
  refine kl_ld (k := 2) hC hX hbl hi hL hW (by decide) (by decide) dL_law_1059 ?_
  obtain ⟨v, h1, h2, hR⟩ := hs μ ν (xs (6 * i + 1)) (xs (6 * i + 2)) hRel
  refine kd_i hW (kd_run hC hW hl.1 (t_vs_promise h1) ⟨rfl, rfl⟩ cw_L_111 (wx_0 (gx D cs α) μ) rfl rfl rfl (Nat.le_of_ble_eq_true rfl) dL_law_1060 ⟨Nat.le_of_ble_eq_true rfl, Nat.le_of_ble_eq_true rfl⟩ ⟨Nat.le_of_succ_le hcs.1, Nat.le_trans (Nat.le_add_right slots 5) hcs.2⟩) (fun H locs hW => ?_)
  have hW2 : wA (gx D cs β) (wm (gx D cs β) ν ++ wx (gx D cs α) μ) (fun q => s.heap.size ≤ q) s.heap H locs := kd_swap hW
  refine lv_aload_n hx hb dL_law_1063 rfl (lv_at hl 2 rfl) ?_
  refine lv_aload_n hx hb dL_law_1064 rfl (lv_at hl 0 rfl) ?_
  refine lv_iload_n hx hb dL_law_1065 rfl (lv_at hl 3 rfl) ?_
  refine lv_iconst (v := 1) hx hb dL_law_1066 (by decide) ?_
  refine lv_iadd hx hb dL_law_1067 ?_
  refine kl_ld (k := 1) hC hX hbl hi hL hW (by decide) (by decide) dL_law_1068 ?_
  refine lv_aload_n hx hb dL_law_1069 rfl (lv_at hl 0 rfl) ?_
  refine lv_iload_n hx hb dL_law_1070 rfl (lv_at hl 3 rfl) ?_
  refine lv_iconst (v := 2) hx hb dL_law_1071 (by decide) ?_
  refine lv_iadd hx hb dL_law_1072 ?_
  refine kl_ld (k := 2) hC hX hbl hi hL hW (by decide) (by decide) dL_law_1073 ?_
  have hC2 : Cx (gx D cs β) RL code 4 p s m #[Value.ref b] c := hC
  refine kd_i hW2 (kd_run hC2 hW2 hl.1 (t_md_promise h2) ⟨rfl, rfl⟩ cw_L_114 (wm_0 (gx D cs β) ν) rfl rfl rfl (Nat.le_of_ble_eq_true rfl) dL_law_1074 ⟨Nat.le_of_ble_eq_true rfl, Nat.le_of_ble_eq_true rfl⟩ ⟨Nat.le_of_succ_le hcs.1, Nat.le_trans (Nat.le_add_right slots 5) hcs.2⟩) (fun H locs hW => ?_)
  refine lv_icmp_eq (tgt := 1751) hx hb dL_law_1077 (by decide) (fun _ => ?_) (fun hc => absurd rfl hc)
  refine W.widen (k := cells + 1) (n := slots + 5) (Nat.le_succ _) (Nat.le_add_right _ _) ?_
  exact kk α μ ν rfl hR (kd_swap hW) hl
set_option maxHeartbeats 4000000 in
set_option maxRecDepth 100000 in
theorem lc_23 (hC : Cx (gx D cs α) RL code 4 p s m #[Value.ref b] c) (hX : va_X b L xs s s.heap) (hbl : b < s.heap.size) (hi : 6 * i + 6 ≤ L) (hL : L ≤ 3072) (hs : ST_whyNot Rel) (hRel : Rel μ ν) (hcs : cells + 1 ≤ 600000 ∧ slots + 5 ≤ 7302250) (hW : wA (gx D cs α) (wx (gx D cs α) μ ++ wm (gx D cs β) ν) (fun q => s.heap.size ≤ q) s.heap H locs) (hl : lv_has ls 4 [(0, .ref b), (1, .ref (ad (gx D cs α) 0)), (2, .ref (ad (gx D cs β) 0)), (3, .int (nI (6 * i)))])
    (kk : ∀ {H : Heap} {locs : List Loc} {ls : Array Slot} (z : Nat → Nat) (μ ν : Mm), z 0 = ad (gx D cs α) 0 → Rel μ ν → wA (gx D cs α) (wx (gx D cs z) μ ++ wm (gx D cs β) ν) (fun q => s.heap.size ≤ q) s.heap H locs → lv_has ls 4 [(0, .ref b), (1, .ref (ad (gx D cs α) 0)), (2, .ref (ad (gx D cs β) 0)), (3, .int (nI (6 * i)))] → W p l e room_1 s m #[Value.ref b] below meth c H locs (cells + 1) (slots + 5) Q (F0 m 1751 ls [])) : W p l e room_1 s m #[Value.ref b] below meth c H locs cells slots Q (F0 m 1082 ls []) := by
  obtain ⟨hx, hb, hml, hown, hts, hK, hN⟩ := id hC
  refine lv_aload_n hx hb dL_law_1082 rfl (lv_at hl 1 rfl) ?_
  refine lv_aload_n hx hb dL_law_1083 rfl (lv_at hl 0 rfl) ?_
  refine lv_iload_n hx hb dL_law_1084 rfl (lv_at hl 3 rfl) ?_
  refine lv_iconst (v := 1) hx hb dL_law_1085 (by decide) ?_
  refine lv_iadd hx hb dL_law_1086 ?_
  refine kl_ld (k := 1) hC hX hbl hi hL hW (by decide) (by decide) dL_law_1087 ?_
  refine lv_aload_n hx hb dL_law_1088 rfl (lv_at hl 0 rfl) ?_
  refine lv_iload_n hx hb dL_law_1089 rfl (lv_at hl 3 rfl) ?_
  refine lv_iconst (v := 2) hx hb dL_law_1090 (by decide) ?_
  refine lv_iadd hx hb dL_law_1091 ?_
  refine kl_ld (k := 2) hC hX hbl hi hL hW (by decide) (by decide) dL_law_1092 ?_
  obtain ⟨v, h1, h2, hR⟩ := hs μ ν (xs (6 * i + 1)) (xs (6 * i + 2)) hRel
  refine kd_i hW (kd_run hC hW hl.1 (t_vs_whyNot h1) ⟨rfl, rfl⟩ cw_L_115 (wx_0 (gx D cs α) μ) rfl rfl rfl (Nat.le_of_ble_eq_true rfl) dL_law_1093 ⟨Nat.le_of_ble_eq_true rfl, Nat.le_of_ble_eq_true rfl⟩ ⟨Nat.le_of_succ_le hcs.1, Nat.le_trans (Nat.le_add_right slots 5) hcs.2⟩) (fun H locs hW => ?_)
  have hW2 : wA (gx D cs β) (wm (gx D cs β) ν ++ wx (gx D cs α) μ) (fun q => s.heap.size ≤ q) s.heap H locs := kd_swap hW
  refine lv_aload_n hx hb dL_law_1096 rfl (lv_at hl 2 rfl) ?_
  refine lv_aload_n hx hb dL_law_1097 rfl (lv_at hl 0 rfl) ?_
  refine lv_iload_n hx hb dL_law_1098 rfl (lv_at hl 3 rfl) ?_
  refine lv_iconst (v := 1) hx hb dL_law_1099 (by decide) ?_
  refine lv_iadd hx hb dL_law_1100 ?_
  refine kl_ld (k := 1) hC hX hbl hi hL hW (by decide) (by decide) dL_law_1101 ?_
  refine lv_aload_n hx hb dL_law_1102 rfl (lv_at hl 0 rfl) ?_
  refine lv_iload_n hx hb dL_law_1103 rfl (lv_at hl 3 rfl) ?_
  refine lv_iconst (v := 2) hx hb dL_law_1104 (by decide) ?_
  refine lv_iadd hx hb dL_law_1105 ?_
  refine kl_ld (k := 2) hC hX hbl hi hL hW (by decide) (by decide) dL_law_1106 ?_
  have hC2 : Cx (gx D cs β) RL code 4 p s m #[Value.ref b] c := hC
  refine kd_i hW2 (kd_run hC2 hW2 hl.1 (t_md_whyNot h2) ⟨rfl, rfl⟩ cw_L_118 (wm_0 (gx D cs β) ν) rfl rfl rfl (Nat.le_of_ble_eq_true rfl) dL_law_1107 ⟨Nat.le_of_ble_eq_true rfl, Nat.le_of_ble_eq_true rfl⟩ ⟨Nat.le_of_succ_le hcs.1, Nat.le_trans (Nat.le_add_right slots 5) hcs.2⟩) (fun H locs hW => ?_)
  refine lv_icmp_eq (tgt := 1751) hx hb dL_law_1110 (by decide) (fun _ => ?_) (fun hc => absurd rfl hc)
  refine W.widen (k := cells + 1) (n := slots + 5) (Nat.le_succ _) (Nat.le_add_right _ _) ?_
  exact kk α μ ν rfl hR (kd_swap hW) hl
set_option maxHeartbeats 4000000 in
set_option maxRecDepth 100000 in
theorem lc_24 (hC : Cx (gx D cs α) RL code 4 p s m #[Value.ref b] c) (hX : va_X b L xs s s.heap) (hbl : b < s.heap.size) (hi : 6 * i + 6 ≤ L) (hL : L ≤ 3072) (hs : ST_ring Rel) (hRel : Rel μ ν) (hcs : cells + 1 ≤ 600000 ∧ slots + 5 ≤ 7302250) (hW : wA (gx D cs α) (wx (gx D cs α) μ ++ wm (gx D cs β) ν) (fun q => s.heap.size ≤ q) s.heap H locs) (hl : lv_has ls 4 [(0, .ref b), (1, .ref (ad (gx D cs α) 0)), (2, .ref (ad (gx D cs β) 0)), (3, .int (nI (6 * i)))])
    (kk : ∀ {H : Heap} {locs : List Loc} {ls : Array Slot} (z : Nat → Nat) (μ ν : Mm), z 0 = ad (gx D cs α) 0 → Rel μ ν → wA (gx D cs α) (wx (gx D cs z) μ ++ wm (gx D cs β) ν) (fun q => s.heap.size ≤ q) s.heap H locs → lv_has ls 4 [(0, .ref b), (1, .ref (ad (gx D cs α) 0)), (2, .ref (ad (gx D cs β) 0)), (3, .int (nI (6 * i)))] → W p l e room_1 s m #[Value.ref b] below meth c H locs (cells + 1) (slots + 5) Q (F0 m 1751 ls [])) : W p l e room_1 s m #[Value.ref b] below meth c H locs cells slots Q (F0 m 1115 ls []) := by
  obtain ⟨hx, hb, hml, hown, hts, hK, hN⟩ := id hC
  refine lv_aload_n hx hb dL_law_1115 rfl (lv_at hl 1 rfl) ?_
  refine lv_aload_n hx hb dL_law_1116 rfl (lv_at hl 0 rfl) ?_
  refine lv_iload_n hx hb dL_law_1117 rfl (lv_at hl 3 rfl) ?_
  refine lv_iconst (v := 1) hx hb dL_law_1118 (by decide) ?_
  refine lv_iadd hx hb dL_law_1119 ?_
  refine kl_ld (k := 1) hC hX hbl hi hL hW (by decide) (by decide) dL_law_1120 ?_
  obtain ⟨v, u, w, h1, h2, hR⟩ := hs μ ν (xs (6 * i + 1)) hRel
  refine kd_i hW (kd_run hC hW hl.1 (t_vs_ring h1) ⟨rfl, rfl⟩ cw_L_119 (wx_0 (gx D cs α) μ) rfl rfl rfl (Nat.le_of_ble_eq_true rfl) dL_law_1121 ⟨Nat.le_of_ble_eq_true rfl, Nat.le_of_ble_eq_true rfl⟩ ⟨Nat.le_of_succ_le hcs.1, Nat.le_trans (Nat.le_add_right slots 5) hcs.2⟩) (fun H locs hW => ?_)
  have hW2 : wA (gx D cs β) (wm (gx D cs β) ν ++ wx (gx D cs α) u) (fun q => s.heap.size ≤ q) s.heap H locs := kd_swap hW
  refine lv_aload_n hx hb dL_law_1124 rfl (lv_at hl 2 rfl) ?_
  refine lv_aload_n hx hb dL_law_1125 rfl (lv_at hl 0 rfl) ?_
  refine lv_iload_n hx hb dL_law_1126 rfl (lv_at hl 3 rfl) ?_
  refine lv_iconst (v := 1) hx hb dL_law_1127 (by decide) ?_
  refine lv_iadd hx hb dL_law_1128 ?_
  refine kl_ld (k := 1) hC hX hbl hi hL hW (by decide) (by decide) dL_law_1129 ?_
  have hC2 : Cx (gx D cs β) RL code 4 p s m #[Value.ref b] c := hC
  refine kd_i hW2 (kd_run hC2 hW2 hl.1 (t_md_ring h2) ⟨rfl, rfl⟩ cw_L_122 (wm_0 (gx D cs β) ν) rfl rfl rfl (Nat.le_of_ble_eq_true rfl) dL_law_1130 ⟨Nat.le_of_ble_eq_true rfl, Nat.le_of_ble_eq_true rfl⟩ ⟨Nat.le_of_succ_le hcs.1, Nat.le_trans (Nat.le_add_right slots 5) hcs.2⟩) (fun H locs hW => ?_)
  refine lv_icmp_eq (tgt := 1751) hx hb dL_law_1133 (by decide) (fun _ => ?_) (fun hc => absurd rfl hc)
  refine W.widen (k := cells + 1) (n := slots + 5) (Nat.le_succ _) (Nat.le_add_right _ _) ?_
  exact kk α u w rfl hR (kd_swap hW) hl
set_option maxHeartbeats 4000000 in
set_option maxRecDepth 100000 in
theorem lc_25 (hC : Cx (gx D cs α) RL code 4 p s m #[Value.ref b] c) (hX : va_X b L xs s s.heap) (hbl : b < s.heap.size) (hi : 6 * i + 6 ≤ L) (hL : L ≤ 3072) (hs : ST_load Rel) (hRel : Rel μ ν) (hcs : cells + 1 ≤ 600000 ∧ slots + 5 ≤ 7302250) (hW : wA (gx D cs α) (wx (gx D cs α) μ ++ wm (gx D cs β) ν) (fun q => s.heap.size ≤ q) s.heap H locs) (hl : lv_has ls 4 [(0, .ref b), (1, .ref (ad (gx D cs α) 0)), (2, .ref (ad (gx D cs β) 0)), (3, .int (nI (6 * i)))])
    (kk : ∀ {H : Heap} {locs : List Loc} {ls : Array Slot} (z : Nat → Nat) (μ ν : Mm), z 0 = ad (gx D cs α) 0 → Rel μ ν → wA (gx D cs α) (wx (gx D cs z) μ ++ wm (gx D cs β) ν) (fun q => s.heap.size ≤ q) s.heap H locs → lv_has ls 4 [(0, .ref b), (1, .ref (ad (gx D cs α) 0)), (2, .ref (ad (gx D cs β) 0)), (3, .int (nI (6 * i)))] → W p l e room_1 s m #[Value.ref b] below meth c H locs (cells + 1) (slots + 5) Q (F0 m 1751 ls [])) : W p l e room_1 s m #[Value.ref b] below meth c H locs cells slots Q (F0 m 1138 ls []) := by
  obtain ⟨hx, hb, hml, hown, hts, hK, hN⟩ := id hC
  refine lv_aload_n hx hb dL_law_1138 rfl (lv_at hl 1 rfl) ?_
  refine lv_aload_n hx hb dL_law_1139 rfl (lv_at hl 0 rfl) ?_
  refine lv_iload_n hx hb dL_law_1140 rfl (lv_at hl 3 rfl) ?_
  refine lv_iconst (v := 1) hx hb dL_law_1141 (by decide) ?_
  refine lv_iadd hx hb dL_law_1142 ?_
  refine kl_ld (k := 1) hC hX hbl hi hL hW (by decide) (by decide) dL_law_1143 ?_
  refine lv_aload_n hx hb dL_law_1144 rfl (lv_at hl 0 rfl) ?_
  refine lv_iload_n hx hb dL_law_1145 rfl (lv_at hl 3 rfl) ?_
  refine lv_iconst (v := 2) hx hb dL_law_1146 (by decide) ?_
  refine lv_iadd hx hb dL_law_1147 ?_
  refine kl_ld (k := 2) hC hX hbl hi hL hW (by decide) (by decide) dL_law_1148 ?_
  refine lv_aload_n hx hb dL_law_1149 rfl (lv_at hl 0 rfl) ?_
  refine lv_iload_n hx hb dL_law_1150 rfl (lv_at hl 3 rfl) ?_
  refine lv_iconst (v := 3) hx hb dL_law_1151 (by decide) ?_
  refine lv_iadd hx hb dL_law_1152 ?_
  refine kl_ld (k := 3) hC hX hbl hi hL hW (by decide) (by decide) dL_law_1153 ?_
  refine lv_aload_n hx hb dL_law_1154 rfl (lv_at hl 0 rfl) ?_
  refine lv_iload_n hx hb dL_law_1155 rfl (lv_at hl 3 rfl) ?_
  refine lv_iconst (v := 4) hx hb dL_law_1156 (by decide) ?_
  refine lv_iadd hx hb dL_law_1157 ?_
  refine kl_ld (k := 4) hC hX hbl hi hL hW (by decide) (by decide) dL_law_1158 ?_
  obtain ⟨v, u, w, h1, h2, hR⟩ := hs μ ν (xs (6 * i + 1)) (xs (6 * i + 2)) (xs (6 * i + 3)) (xs (6 * i + 4)) hRel
  refine kd_l hW (kd_run hC hW hl.1 (t_vs_load h1) ⟨rfl, rfl⟩ cw_L_123 (wx_0 (gx D cs α) μ) rfl rfl rfl (Nat.le_of_ble_eq_true rfl) dL_law_1159 ⟨Nat.le_of_ble_eq_true rfl, Nat.le_of_ble_eq_true rfl⟩ ⟨Nat.le_of_succ_le hcs.1, Nat.le_trans (Nat.le_add_right slots 5) hcs.2⟩) (fun H locs hW => ?_)
  have hW2 : wA (gx D cs β) (wm (gx D cs β) ν ++ wx (gx D cs α) u) (fun q => s.heap.size ≤ q) s.heap H locs := kd_swap hW
  refine lv_aload_n hx hb dL_law_1162 rfl (lv_at hl 2 rfl) ?_
  refine lv_aload_n hx hb dL_law_1163 rfl (lv_at hl 0 rfl) ?_
  refine lv_iload_n hx hb dL_law_1164 rfl (lv_at hl 3 rfl) ?_
  refine lv_iconst (v := 1) hx hb dL_law_1165 (by decide) ?_
  refine lv_iadd hx hb dL_law_1166 ?_
  refine kl_ld (k := 1) hC hX hbl hi hL hW (by decide) (by decide) dL_law_1167 ?_
  refine lv_aload_n hx hb dL_law_1168 rfl (lv_at hl 0 rfl) ?_
  refine lv_iload_n hx hb dL_law_1169 rfl (lv_at hl 3 rfl) ?_
  refine lv_iconst (v := 2) hx hb dL_law_1170 (by decide) ?_
  refine lv_iadd hx hb dL_law_1171 ?_
  refine kl_ld (k := 2) hC hX hbl hi hL hW (by decide) (by decide) dL_law_1172 ?_
  refine lv_aload_n hx hb dL_law_1173 rfl (lv_at hl 0 rfl) ?_
  refine lv_iload_n hx hb dL_law_1174 rfl (lv_at hl 3 rfl) ?_
  refine lv_iconst (v := 3) hx hb dL_law_1175 (by decide) ?_
  refine lv_iadd hx hb dL_law_1176 ?_
  refine kl_ld (k := 3) hC hX hbl hi hL hW (by decide) (by decide) dL_law_1177 ?_
  refine lv_aload_n hx hb dL_law_1178 rfl (lv_at hl 0 rfl) ?_
  refine lv_iload_n hx hb dL_law_1179 rfl (lv_at hl 3 rfl) ?_
  refine lv_iconst (v := 4) hx hb dL_law_1180 (by decide) ?_
  refine lv_iadd hx hb dL_law_1181 ?_
  refine kl_ld (k := 4) hC hX hbl hi hL hW (by decide) (by decide) dL_law_1182 ?_
  have hC2 : Cx (gx D cs β) RL code 4 p s m #[Value.ref b] c := hC
  refine kd_l hW2 (kd_run hC2 hW2 hl.1 (t_md_load h2) ⟨rfl, rfl⟩ cw_L_127 (wm_0 (gx D cs β) ν) rfl rfl rfl (Nat.le_of_ble_eq_true rfl) dL_law_1183 ⟨Nat.le_of_ble_eq_true rfl, Nat.le_of_ble_eq_true rfl⟩ ⟨Nat.le_of_succ_le hcs.1, Nat.le_trans (Nat.le_add_right slots 5) hcs.2⟩) (fun H locs hW => ?_)
  refine W.lcmp hx hb dL_law_1186 ?_
  refine lv_if_eq (tgt := 1751) hx hb dL_law_1187 (by decide) (fun _ => ?_) (fun hc => absurd (lg_cmp_self _) hc)
  refine W.widen (k := cells + 1) (n := slots + 5) (Nat.le_succ _) (Nat.le_add_right _ _) ?_
  exact kk α u w rfl hR (kd_swap hW) hl
set_option maxHeartbeats 4000000 in
set_option maxRecDepth 100000 in
theorem lc_26 (hC : Cx (gx D cs α) RL code 4 p s m #[Value.ref b] c) (hX : va_X b L xs s s.heap) (hbl : b < s.heap.size) (hi : 6 * i + 6 ≤ L) (hL : L ≤ 3072) (hs : ST_served Rel) (hRel : Rel μ ν) (hcs : cells + 1 ≤ 600000 ∧ slots + 5 ≤ 7302250) (hW : wA (gx D cs α) (wx (gx D cs α) μ ++ wm (gx D cs β) ν) (fun q => s.heap.size ≤ q) s.heap H locs) (hl : lv_has ls 4 [(0, .ref b), (1, .ref (ad (gx D cs α) 0)), (2, .ref (ad (gx D cs β) 0)), (3, .int (nI (6 * i)))])
    (kk : ∀ {H : Heap} {locs : List Loc} {ls : Array Slot} (z : Nat → Nat) (μ ν : Mm), z 0 = ad (gx D cs α) 0 → Rel μ ν → wA (gx D cs α) (wx (gx D cs z) μ ++ wm (gx D cs β) ν) (fun q => s.heap.size ≤ q) s.heap H locs → lv_has ls 4 [(0, .ref b), (1, .ref (ad (gx D cs α) 0)), (2, .ref (ad (gx D cs β) 0)), (3, .int (nI (6 * i)))] → W p l e room_1 s m #[Value.ref b] below meth c H locs (cells + 1) (slots + 5) Q (F0 m 1751 ls [])) : W p l e room_1 s m #[Value.ref b] below meth c H locs cells slots Q (F0 m 1192 ls []) := by
  obtain ⟨hx, hb, hml, hown, hts, hK, hN⟩ := id hC
  refine lv_aload_n hx hb dL_law_1192 rfl (lv_at hl 1 rfl) ?_
  refine lv_aload_n hx hb dL_law_1193 rfl (lv_at hl 0 rfl) ?_
  refine lv_iload_n hx hb dL_law_1194 rfl (lv_at hl 3 rfl) ?_
  refine lv_iconst (v := 1) hx hb dL_law_1195 (by decide) ?_
  refine lv_iadd hx hb dL_law_1196 ?_
  refine kl_ld (k := 1) hC hX hbl hi hL hW (by decide) (by decide) dL_law_1197 ?_
  refine lv_aload_n hx hb dL_law_1198 rfl (lv_at hl 0 rfl) ?_
  refine lv_iload_n hx hb dL_law_1199 rfl (lv_at hl 3 rfl) ?_
  refine lv_iconst (v := 2) hx hb dL_law_1200 (by decide) ?_
  refine lv_iadd hx hb dL_law_1201 ?_
  refine kl_ld (k := 2) hC hX hbl hi hL hW (by decide) (by decide) dL_law_1202 ?_
  refine lv_i2l (v := ((xs (6 * i + 2)) : Int32).toInt64) hx hb dL_law_1203 rfl ?_
  refine lv_bipush (v := 32) hx hb dL_law_1204 (by decide) ?_
  refine lv_lshl (v := ((((xs (6 * i + 2)) : Int32).toInt64) <<< ((32 : Int32).toInt64 &&& 63))) hx hb dL_law_1206 rfl ?_
  refine lv_aload_n hx hb dL_law_1207 rfl (lv_at hl 0 rfl) ?_
  refine lv_iload_n hx hb dL_law_1208 rfl (lv_at hl 3 rfl) ?_
  refine lv_iconst (v := 3) hx hb dL_law_1209 (by decide) ?_
  refine lv_iadd hx hb dL_law_1210 ?_
  refine kl_ld (k := 3) hC hX hbl hi hL hW (by decide) (by decide) dL_law_1211 ?_
  refine lv_i2l (v := ((xs (6 * i + 3)) : Int32).toInt64) hx hb dL_law_1212 rfl ?_
  refine lv_ldc2 hx hb hown (hts _ tw_1853) dL_law_1213 ?_
  refine lv_land hx hb dL_law_1216 ?_
  refine lv_lor hx hb dL_law_1217 ?_
  refine lv_aload_n hx hb dL_law_1218 rfl (lv_at hl 0 rfl) ?_
  refine lv_iload_n hx hb dL_law_1219 rfl (lv_at hl 3 rfl) ?_
  refine lv_iconst (v := 4) hx hb dL_law_1220 (by decide) ?_
  refine lv_iadd hx hb dL_law_1221 ?_
  refine kl_ld (k := 4) hC hX hbl hi hL hW (by decide) (by decide) dL_law_1222 ?_
  obtain ⟨v, u, w, h1, h2, hR⟩ := hs μ ν (xs (6 * i + 1)) (((((xs (6 * i + 2)) : Int32).toInt64) <<< ((32 : Int32).toInt64 &&& 63)) ||| ((((xs (6 * i + 3)) : Int32).toInt64) &&& 4294967295)) (xs (6 * i + 4)) hRel
  refine kd_i hW (kd_run hC hW hl.1 (t_vs_served h1) ⟨rfl, rfl⟩ cw_L_130 (wx_0 (gx D cs α) μ) rfl rfl rfl (Nat.le_of_ble_eq_true rfl) dL_law_1223 ⟨Nat.le_of_ble_eq_true rfl, Nat.le_of_ble_eq_true rfl⟩ ⟨Nat.le_of_succ_le hcs.1, Nat.le_trans (Nat.le_add_right slots 5) hcs.2⟩) (fun H locs hW => ?_)
  have hW2 : wA (gx D cs β) (wm (gx D cs β) ν ++ wx (gx D cs α) u) (fun q => s.heap.size ≤ q) s.heap H locs := kd_swap hW
  refine lv_aload_n hx hb dL_law_1226 rfl (lv_at hl 2 rfl) ?_
  refine lv_aload_n hx hb dL_law_1227 rfl (lv_at hl 0 rfl) ?_
  refine lv_iload_n hx hb dL_law_1228 rfl (lv_at hl 3 rfl) ?_
  refine lv_iconst (v := 1) hx hb dL_law_1229 (by decide) ?_
  refine lv_iadd hx hb dL_law_1230 ?_
  refine kl_ld (k := 1) hC hX hbl hi hL hW (by decide) (by decide) dL_law_1231 ?_
  refine lv_aload_n hx hb dL_law_1232 rfl (lv_at hl 0 rfl) ?_
  refine lv_iload_n hx hb dL_law_1233 rfl (lv_at hl 3 rfl) ?_
  refine lv_iconst (v := 2) hx hb dL_law_1234 (by decide) ?_
  refine lv_iadd hx hb dL_law_1235 ?_
  refine kl_ld (k := 2) hC hX hbl hi hL hW (by decide) (by decide) dL_law_1236 ?_
  refine lv_i2l (v := ((xs (6 * i + 2)) : Int32).toInt64) hx hb dL_law_1237 rfl ?_
  refine lv_bipush (v := 32) hx hb dL_law_1238 (by decide) ?_
  refine lv_lshl (v := ((((xs (6 * i + 2)) : Int32).toInt64) <<< ((32 : Int32).toInt64 &&& 63))) hx hb dL_law_1240 rfl ?_
  refine lv_aload_n hx hb dL_law_1241 rfl (lv_at hl 0 rfl) ?_
  refine lv_iload_n hx hb dL_law_1242 rfl (lv_at hl 3 rfl) ?_
  refine lv_iconst (v := 3) hx hb dL_law_1243 (by decide) ?_
  refine lv_iadd hx hb dL_law_1244 ?_
  refine kl_ld (k := 3) hC hX hbl hi hL hW (by decide) (by decide) dL_law_1245 ?_
  refine lv_i2l (v := ((xs (6 * i + 3)) : Int32).toInt64) hx hb dL_law_1246 rfl ?_
  refine lv_ldc2 hx hb hown (hts _ tw_1853) dL_law_1247 ?_
  refine lv_land hx hb dL_law_1250 ?_
  refine lv_lor hx hb dL_law_1251 ?_
  refine lv_aload_n hx hb dL_law_1252 rfl (lv_at hl 0 rfl) ?_
  refine lv_iload_n hx hb dL_law_1253 rfl (lv_at hl 3 rfl) ?_
  refine lv_iconst (v := 4) hx hb dL_law_1254 (by decide) ?_
  refine lv_iadd hx hb dL_law_1255 ?_
  refine kl_ld (k := 4) hC hX hbl hi hL hW (by decide) (by decide) dL_law_1256 ?_
  have hC2 : Cx (gx D cs β) RL code 4 p s m #[Value.ref b] c := hC
  refine kd_i hW2 (kd_run hC2 hW2 hl.1 (t_md_served h2) ⟨rfl, rfl⟩ cw_L_134 (wm_0 (gx D cs β) ν) rfl rfl rfl (Nat.le_of_ble_eq_true rfl) dL_law_1257 ⟨Nat.le_of_ble_eq_true rfl, Nat.le_of_ble_eq_true rfl⟩ ⟨Nat.le_of_succ_le hcs.1, Nat.le_trans (Nat.le_add_right slots 5) hcs.2⟩) (fun H locs hW => ?_)
  refine lv_icmp_eq (tgt := 1751) hx hb dL_law_1260 (by decide) (fun _ => ?_) (fun hc => absurd rfl hc)
  refine W.widen (k := cells + 1) (n := slots + 5) (Nat.le_succ _) (Nat.le_add_right _ _) ?_
  exact kk α u w rfl hR (kd_swap hW) hl
set_option maxHeartbeats 4000000 in
set_option maxRecDepth 100000 in
theorem lc_27 (hC : Cx (gx D cs α) RL code 4 p s m #[Value.ref b] c) (hX : va_X b L xs s s.heap) (hbl : b < s.heap.size) (hi : 6 * i + 6 ≤ L) (hL : L ≤ 3072) (hs : ST_least Rel) (hRel : Rel μ ν) (hcs : cells + 1 ≤ 600000 ∧ slots + 5 ≤ 7302250) (hW : wA (gx D cs α) (wx (gx D cs α) μ ++ wm (gx D cs β) ν) (fun q => s.heap.size ≤ q) s.heap H locs) (hl : lv_has ls 4 [(0, .ref b), (1, .ref (ad (gx D cs α) 0)), (2, .ref (ad (gx D cs β) 0)), (3, .int (nI (6 * i)))])
    (kk : ∀ {H : Heap} {locs : List Loc} {ls : Array Slot} (z : Nat → Nat) (μ ν : Mm), z 0 = ad (gx D cs α) 0 → Rel μ ν → wA (gx D cs α) (wx (gx D cs z) μ ++ wm (gx D cs β) ν) (fun q => s.heap.size ≤ q) s.heap H locs → lv_has ls 4 [(0, .ref b), (1, .ref (ad (gx D cs α) 0)), (2, .ref (ad (gx D cs β) 0)), (3, .int (nI (6 * i)))] → W p l e room_1 s m #[Value.ref b] below meth c H locs (cells + 1) (slots + 5) Q (F0 m 1751 ls [])) : W p l e room_1 s m #[Value.ref b] below meth c H locs cells slots Q (F0 m 1265 ls []) := by
  obtain ⟨hx, hb, hml, hown, hts, hK, hN⟩ := id hC
  refine lv_aload_n hx hb dL_law_1265 rfl (lv_at hl 1 rfl) ?_
  refine lv_aload_n hx hb dL_law_1266 rfl (lv_at hl 0 rfl) ?_
  refine lv_iload_n hx hb dL_law_1267 rfl (lv_at hl 3 rfl) ?_
  refine lv_iconst (v := 1) hx hb dL_law_1268 (by decide) ?_
  refine lv_iadd hx hb dL_law_1269 ?_
  refine kl_ld (k := 1) hC hX hbl hi hL hW (by decide) (by decide) dL_law_1270 ?_
  obtain ⟨v, h1, h2, hR⟩ := hs μ ν (xs (6 * i + 1)) hRel
  refine kd_i hW (kd_run hC hW hl.1 (t_vs_least h1) ⟨rfl, rfl⟩ cw_L_135 (wx_0 (gx D cs α) μ) rfl rfl rfl (Nat.le_of_ble_eq_true rfl) dL_law_1271 ⟨Nat.le_of_ble_eq_true rfl, Nat.le_of_ble_eq_true rfl⟩ ⟨Nat.le_of_succ_le hcs.1, Nat.le_trans (Nat.le_add_right slots 5) hcs.2⟩) (fun H locs hW => ?_)
  have hW2 : wA (gx D cs β) (wm (gx D cs β) ν ++ wx (gx D cs α) μ) (fun q => s.heap.size ≤ q) s.heap H locs := kd_swap hW
  refine lv_aload_n hx hb dL_law_1274 rfl (lv_at hl 2 rfl) ?_
  refine lv_aload_n hx hb dL_law_1275 rfl (lv_at hl 0 rfl) ?_
  refine lv_iload_n hx hb dL_law_1276 rfl (lv_at hl 3 rfl) ?_
  refine lv_iconst (v := 1) hx hb dL_law_1277 (by decide) ?_
  refine lv_iadd hx hb dL_law_1278 ?_
  refine kl_ld (k := 1) hC hX hbl hi hL hW (by decide) (by decide) dL_law_1279 ?_
  have hC2 : Cx (gx D cs β) RL code 4 p s m #[Value.ref b] c := hC
  refine kd_i hW2 (kd_run hC2 hW2 hl.1 (t_md_least h2) ⟨rfl, rfl⟩ cw_L_138 (wm_0 (gx D cs β) ν) rfl rfl rfl (Nat.le_of_ble_eq_true rfl) dL_law_1280 ⟨Nat.le_of_ble_eq_true rfl, Nat.le_of_ble_eq_true rfl⟩ ⟨Nat.le_of_succ_le hcs.1, Nat.le_trans (Nat.le_add_right slots 5) hcs.2⟩) (fun H locs hW => ?_)
  refine lv_icmp_eq (tgt := 1751) hx hb dL_law_1283 (by decide) (fun _ => ?_) (fun hc => absurd rfl hc)
  refine W.widen (k := cells + 1) (n := slots + 5) (Nat.le_succ _) (Nat.le_add_right _ _) ?_
  exact kk α μ ν rfl hR (kd_swap hW) hl
set_option maxHeartbeats 4000000 in
set_option maxRecDepth 100000 in
theorem lc_28 (hC : Cx (gx D cs α) RL code 4 p s m #[Value.ref b] c) (hX : va_X b L xs s s.heap) (hbl : b < s.heap.size) (hi : 6 * i + 6 ≤ L) (hL : L ≤ 3072) (hs : ST_dull Rel) (hRel : Rel μ ν) (hcs : cells + 1 ≤ 600000 ∧ slots + 5 ≤ 7302250) (hW : wA (gx D cs α) (wx (gx D cs α) μ ++ wm (gx D cs β) ν) (fun q => s.heap.size ≤ q) s.heap H locs) (hl : lv_has ls 4 [(0, .ref b), (1, .ref (ad (gx D cs α) 0)), (2, .ref (ad (gx D cs β) 0)), (3, .int (nI (6 * i)))])
    (kk : ∀ {H : Heap} {locs : List Loc} {ls : Array Slot} (z : Nat → Nat) (μ ν : Mm), z 0 = ad (gx D cs α) 0 → Rel μ ν → wA (gx D cs α) (wx (gx D cs z) μ ++ wm (gx D cs β) ν) (fun q => s.heap.size ≤ q) s.heap H locs → lv_has ls 4 [(0, .ref b), (1, .ref (ad (gx D cs α) 0)), (2, .ref (ad (gx D cs β) 0)), (3, .int (nI (6 * i)))] → W p l e room_1 s m #[Value.ref b] below meth c H locs (cells + 1) (slots + 5) Q (F0 m 1751 ls [])) : W p l e room_1 s m #[Value.ref b] below meth c H locs cells slots Q (F0 m 1288 ls []) := by
  obtain ⟨hx, hb, hml, hown, hts, hK, hN⟩ := id hC
  refine lv_aload_n hx hb dL_law_1288 rfl (lv_at hl 1 rfl) ?_
  refine lv_aload_n hx hb dL_law_1289 rfl (lv_at hl 0 rfl) ?_
  refine lv_iload_n hx hb dL_law_1290 rfl (lv_at hl 3 rfl) ?_
  refine lv_iconst (v := 1) hx hb dL_law_1291 (by decide) ?_
  refine lv_iadd hx hb dL_law_1292 ?_
  refine kl_ld (k := 1) hC hX hbl hi hL hW (by decide) (by decide) dL_law_1293 ?_
  refine lv_aload_n hx hb dL_law_1294 rfl (lv_at hl 0 rfl) ?_
  refine lv_iload_n hx hb dL_law_1295 rfl (lv_at hl 3 rfl) ?_
  refine lv_iconst (v := 2) hx hb dL_law_1296 (by decide) ?_
  refine lv_iadd hx hb dL_law_1297 ?_
  refine kl_ld (k := 2) hC hX hbl hi hL hW (by decide) (by decide) dL_law_1298 ?_
  obtain ⟨v, u, w, h1, h2, hR⟩ := hs μ ν (xs (6 * i + 1)) (xs (6 * i + 2)) hRel
  refine kd_l hW (kd_run hC hW hl.1 (t_vs_dull h1) ⟨rfl, rfl⟩ cw_L_139 (wx_0 (gx D cs α) μ) rfl rfl rfl (Nat.le_of_ble_eq_true rfl) dL_law_1299 ⟨Nat.le_of_ble_eq_true rfl, Nat.le_of_ble_eq_true rfl⟩ ⟨Nat.le_of_succ_le hcs.1, Nat.le_trans (Nat.le_add_right slots 5) hcs.2⟩) (fun H locs hW => ?_)
  have hW2 : wA (gx D cs β) (wm (gx D cs β) ν ++ wx (gx D cs α) u) (fun q => s.heap.size ≤ q) s.heap H locs := kd_swap hW
  refine lv_aload_n hx hb dL_law_1302 rfl (lv_at hl 2 rfl) ?_
  refine lv_aload_n hx hb dL_law_1303 rfl (lv_at hl 0 rfl) ?_
  refine lv_iload_n hx hb dL_law_1304 rfl (lv_at hl 3 rfl) ?_
  refine lv_iconst (v := 1) hx hb dL_law_1305 (by decide) ?_
  refine lv_iadd hx hb dL_law_1306 ?_
  refine kl_ld (k := 1) hC hX hbl hi hL hW (by decide) (by decide) dL_law_1307 ?_
  refine lv_aload_n hx hb dL_law_1308 rfl (lv_at hl 0 rfl) ?_
  refine lv_iload_n hx hb dL_law_1309 rfl (lv_at hl 3 rfl) ?_
  refine lv_iconst (v := 2) hx hb dL_law_1310 (by decide) ?_
  refine lv_iadd hx hb dL_law_1311 ?_
  refine kl_ld (k := 2) hC hX hbl hi hL hW (by decide) (by decide) dL_law_1312 ?_
  have hC2 : Cx (gx D cs β) RL code 4 p s m #[Value.ref b] c := hC
  refine kd_l hW2 (kd_run hC2 hW2 hl.1 (t_md_dull h2) ⟨rfl, rfl⟩ cw_L_142 (wm_0 (gx D cs β) ν) rfl rfl rfl (Nat.le_of_ble_eq_true rfl) dL_law_1313 ⟨Nat.le_of_ble_eq_true rfl, Nat.le_of_ble_eq_true rfl⟩ ⟨Nat.le_of_succ_le hcs.1, Nat.le_trans (Nat.le_add_right slots 5) hcs.2⟩) (fun H locs hW => ?_)
  refine W.lcmp hx hb dL_law_1316 ?_
  refine lv_if_eq (tgt := 1751) hx hb dL_law_1317 (by decide) (fun _ => ?_) (fun hc => absurd (lg_cmp_self _) hc)
  refine W.widen (k := cells + 1) (n := slots + 5) (Nat.le_succ _) (Nat.le_add_right _ _) ?_
  exact kk α u w rfl hR (kd_swap hW) hl
set_option maxHeartbeats 4000000 in
set_option maxRecDepth 100000 in
theorem lc_29 (hC : Cx (gx D cs α) RL code 4 p s m #[Value.ref b] c) (hX : va_X b L xs s s.heap) (hbl : b < s.heap.size) (hi : 6 * i + 6 ≤ L) (hL : L ≤ 3072) (hs : ST_onward Rel) (hRel : Rel μ ν) (hcs : cells + 1 ≤ 600000 ∧ slots + 5 ≤ 7302250) (hW : wA (gx D cs α) (wx (gx D cs α) μ ++ wm (gx D cs β) ν) (fun q => s.heap.size ≤ q) s.heap H locs) (hl : lv_has ls 4 [(0, .ref b), (1, .ref (ad (gx D cs α) 0)), (2, .ref (ad (gx D cs β) 0)), (3, .int (nI (6 * i)))])
    (kk : ∀ {H : Heap} {locs : List Loc} {ls : Array Slot} (z : Nat → Nat) (μ ν : Mm), z 0 = ad (gx D cs α) 0 → Rel μ ν → wA (gx D cs α) (wx (gx D cs z) μ ++ wm (gx D cs β) ν) (fun q => s.heap.size ≤ q) s.heap H locs → lv_has ls 4 [(0, .ref b), (1, .ref (ad (gx D cs α) 0)), (2, .ref (ad (gx D cs β) 0)), (3, .int (nI (6 * i)))] → W p l e room_1 s m #[Value.ref b] below meth c H locs (cells + 1) (slots + 5) Q (F0 m 1751 ls [])) : W p l e room_1 s m #[Value.ref b] below meth c H locs cells slots Q (F0 m 1322 ls []) := by
  obtain ⟨hx, hb, hml, hown, hts, hK, hN⟩ := id hC
  refine lv_aload_n hx hb dL_law_1322 rfl (lv_at hl 1 rfl) ?_
  refine lv_aload_n hx hb dL_law_1323 rfl (lv_at hl 0 rfl) ?_
  refine lv_iload_n hx hb dL_law_1324 rfl (lv_at hl 3 rfl) ?_
  refine lv_iconst (v := 1) hx hb dL_law_1325 (by decide) ?_
  refine lv_iadd hx hb dL_law_1326 ?_
  refine kl_ld (k := 1) hC hX hbl hi hL hW (by decide) (by decide) dL_law_1327 ?_
  refine lv_aload_n hx hb dL_law_1328 rfl (lv_at hl 0 rfl) ?_
  refine lv_iload_n hx hb dL_law_1329 rfl (lv_at hl 3 rfl) ?_
  refine lv_iconst (v := 2) hx hb dL_law_1330 (by decide) ?_
  refine lv_iadd hx hb dL_law_1331 ?_
  refine kl_ld (k := 2) hC hX hbl hi hL hW (by decide) (by decide) dL_law_1332 ?_
  obtain ⟨v, u, w, h1, h2, hR⟩ := hs μ ν (xs (6 * i + 1)) (xs (6 * i + 2)) hRel
  refine kd_i hW (kd_run hC hW hl.1 (t_vs_onward h1) ⟨rfl, rfl⟩ cw_L_143 (wx_0 (gx D cs α) μ) rfl rfl rfl (Nat.le_of_ble_eq_true rfl) dL_law_1333 ⟨Nat.le_of_ble_eq_true rfl, Nat.le_of_ble_eq_true rfl⟩ ⟨Nat.le_of_succ_le hcs.1, Nat.le_trans (Nat.le_add_right slots 5) hcs.2⟩) (fun H locs hW => ?_)
  have hW2 : wA (gx D cs β) (wm (gx D cs β) ν ++ wx (gx D cs α) u) (fun q => s.heap.size ≤ q) s.heap H locs := kd_swap hW
  refine lv_aload_n hx hb dL_law_1336 rfl (lv_at hl 2 rfl) ?_
  refine lv_aload_n hx hb dL_law_1337 rfl (lv_at hl 0 rfl) ?_
  refine lv_iload_n hx hb dL_law_1338 rfl (lv_at hl 3 rfl) ?_
  refine lv_iconst (v := 1) hx hb dL_law_1339 (by decide) ?_
  refine lv_iadd hx hb dL_law_1340 ?_
  refine kl_ld (k := 1) hC hX hbl hi hL hW (by decide) (by decide) dL_law_1341 ?_
  refine lv_aload_n hx hb dL_law_1342 rfl (lv_at hl 0 rfl) ?_
  refine lv_iload_n hx hb dL_law_1343 rfl (lv_at hl 3 rfl) ?_
  refine lv_iconst (v := 2) hx hb dL_law_1344 (by decide) ?_
  refine lv_iadd hx hb dL_law_1345 ?_
  refine kl_ld (k := 2) hC hX hbl hi hL hW (by decide) (by decide) dL_law_1346 ?_
  have hC2 : Cx (gx D cs β) RL code 4 p s m #[Value.ref b] c := hC
  refine kd_i hW2 (kd_run hC2 hW2 hl.1 (t_md_onward h2) ⟨rfl, rfl⟩ cw_L_146 (wm_0 (gx D cs β) ν) rfl rfl rfl (Nat.le_of_ble_eq_true rfl) dL_law_1347 ⟨Nat.le_of_ble_eq_true rfl, Nat.le_of_ble_eq_true rfl⟩ ⟨Nat.le_of_succ_le hcs.1, Nat.le_trans (Nat.le_add_right slots 5) hcs.2⟩) (fun H locs hW => ?_)
  refine lv_icmp_eq (tgt := 1751) hx hb dL_law_1350 (by decide) (fun _ => ?_) (fun hc => absurd rfl hc)
  refine W.widen (k := cells + 1) (n := slots + 5) (Nat.le_succ _) (Nat.le_add_right _ _) ?_
  exact kk α u w rfl hR (kd_swap hW) hl
set_option maxHeartbeats 4000000 in
set_option maxRecDepth 100000 in
theorem lc_30 (hC : Cx (gx D cs α) RL code 4 p s m #[Value.ref b] c) (hX : va_X b L xs s s.heap) (hbl : b < s.heap.size) (hi : 6 * i + 6 ≤ L) (hL : L ≤ 3072) (hs : ST_different Rel) (hRel : Rel μ ν) (hcs : cells + 1 ≤ 600000 ∧ slots + 5 ≤ 7302250) (hW : wA (gx D cs α) (wx (gx D cs α) μ ++ wm (gx D cs β) ν) (fun q => s.heap.size ≤ q) s.heap H locs) (hl : lv_has ls 4 [(0, .ref b), (1, .ref (ad (gx D cs α) 0)), (2, .ref (ad (gx D cs β) 0)), (3, .int (nI (6 * i)))])
    (kk : ∀ {H : Heap} {locs : List Loc} {ls : Array Slot} (z : Nat → Nat) (μ ν : Mm), z 0 = ad (gx D cs α) 0 → Rel μ ν → wA (gx D cs α) (wx (gx D cs z) μ ++ wm (gx D cs β) ν) (fun q => s.heap.size ≤ q) s.heap H locs → lv_has ls 4 [(0, .ref b), (1, .ref (ad (gx D cs α) 0)), (2, .ref (ad (gx D cs β) 0)), (3, .int (nI (6 * i)))] → W p l e room_1 s m #[Value.ref b] below meth c H locs (cells + 1) (slots + 5) Q (F0 m 1751 ls [])) : W p l e room_1 s m #[Value.ref b] below meth c H locs cells slots Q (F0 m 1355 ls []) := by
  obtain ⟨hx, hb, hml, hown, hts, hK, hN⟩ := id hC
  refine lv_aload_n hx hb dL_law_1355 rfl (lv_at hl 1 rfl) ?_
  refine lv_aload_n hx hb dL_law_1356 rfl (lv_at hl 0 rfl) ?_
  refine lv_iload_n hx hb dL_law_1357 rfl (lv_at hl 3 rfl) ?_
  refine lv_iconst (v := 1) hx hb dL_law_1358 (by decide) ?_
  refine lv_iadd hx hb dL_law_1359 ?_
  refine kl_ld (k := 1) hC hX hbl hi hL hW (by decide) (by decide) dL_law_1360 ?_
  refine lv_aload_n hx hb dL_law_1361 rfl (lv_at hl 0 rfl) ?_
  refine lv_iload_n hx hb dL_law_1362 rfl (lv_at hl 3 rfl) ?_
  refine lv_iconst (v := 2) hx hb dL_law_1363 (by decide) ?_
  refine lv_iadd hx hb dL_law_1364 ?_
  refine kl_ld (k := 2) hC hX hbl hi hL hW (by decide) (by decide) dL_law_1365 ?_
  obtain ⟨v, h1, h2, hR⟩ := hs μ ν (xs (6 * i + 1)) (xs (6 * i + 2)) hRel
  refine kd_i hW (kd_run hC hW hl.1 (t_vs_different h1) ⟨rfl, rfl⟩ cw_L_147 (wx_0 (gx D cs α) μ) rfl rfl rfl (Nat.le_of_ble_eq_true rfl) dL_law_1366 ⟨Nat.le_of_ble_eq_true rfl, Nat.le_of_ble_eq_true rfl⟩ ⟨Nat.le_of_succ_le hcs.1, Nat.le_trans (Nat.le_add_right slots 5) hcs.2⟩) (fun H locs hW => ?_)
  have hW2 : wA (gx D cs β) (wm (gx D cs β) ν ++ wx (gx D cs α) μ) (fun q => s.heap.size ≤ q) s.heap H locs := kd_swap hW
  refine lv_aload_n hx hb dL_law_1369 rfl (lv_at hl 2 rfl) ?_
  refine lv_aload_n hx hb dL_law_1370 rfl (lv_at hl 0 rfl) ?_
  refine lv_iload_n hx hb dL_law_1371 rfl (lv_at hl 3 rfl) ?_
  refine lv_iconst (v := 1) hx hb dL_law_1372 (by decide) ?_
  refine lv_iadd hx hb dL_law_1373 ?_
  refine kl_ld (k := 1) hC hX hbl hi hL hW (by decide) (by decide) dL_law_1374 ?_
  refine lv_aload_n hx hb dL_law_1375 rfl (lv_at hl 0 rfl) ?_
  refine lv_iload_n hx hb dL_law_1376 rfl (lv_at hl 3 rfl) ?_
  refine lv_iconst (v := 2) hx hb dL_law_1377 (by decide) ?_
  refine lv_iadd hx hb dL_law_1378 ?_
  refine kl_ld (k := 2) hC hX hbl hi hL hW (by decide) (by decide) dL_law_1379 ?_
  have hC2 : Cx (gx D cs β) RL code 4 p s m #[Value.ref b] c := hC
  refine kd_i hW2 (kd_run hC2 hW2 hl.1 (t_md_different h2) ⟨rfl, rfl⟩ cw_L_150 (wm_0 (gx D cs β) ν) rfl rfl rfl (Nat.le_of_ble_eq_true rfl) dL_law_1380 ⟨Nat.le_of_ble_eq_true rfl, Nat.le_of_ble_eq_true rfl⟩ ⟨Nat.le_of_succ_le hcs.1, Nat.le_trans (Nat.le_add_right slots 5) hcs.2⟩) (fun H locs hW => ?_)
  refine lv_icmp_eq (tgt := 1751) hx hb dL_law_1383 (by decide) (fun _ => ?_) (fun hc => absurd rfl hc)
  refine W.widen (k := cells + 1) (n := slots + 5) (Nat.le_succ _) (Nat.le_add_right _ _) ?_
  exact kk α μ ν rfl hR (kd_swap hW) hl
set_option maxHeartbeats 4000000 in
set_option maxRecDepth 100000 in
theorem lc_31 (hC : Cx (gx D cs α) RL code 4 p s m #[Value.ref b] c) (hX : va_X b L xs s s.heap) (hbl : b < s.heap.size) (hi : 6 * i + 6 ≤ L) (hL : L ≤ 3072) (hs : ST_pace Rel) (hRel : Rel μ ν) (hcs : cells + 1 ≤ 600000 ∧ slots + 5 ≤ 7302250) (hW : wA (gx D cs α) (wx (gx D cs α) μ ++ wm (gx D cs β) ν) (fun q => s.heap.size ≤ q) s.heap H locs) (hl : lv_has ls 4 [(0, .ref b), (1, .ref (ad (gx D cs α) 0)), (2, .ref (ad (gx D cs β) 0)), (3, .int (nI (6 * i)))])
    (kk : ∀ {H : Heap} {locs : List Loc} {ls : Array Slot} (z : Nat → Nat) (μ ν : Mm), z 0 = ad (gx D cs α) 0 → Rel μ ν → wA (gx D cs α) (wx (gx D cs z) μ ++ wm (gx D cs β) ν) (fun q => s.heap.size ≤ q) s.heap H locs → lv_has ls 4 [(0, .ref b), (1, .ref (ad (gx D cs α) 0)), (2, .ref (ad (gx D cs β) 0)), (3, .int (nI (6 * i)))] → W p l e room_1 s m #[Value.ref b] below meth c H locs (cells + 1) (slots + 5) Q (F0 m 1751 ls [])) : W p l e room_1 s m #[Value.ref b] below meth c H locs cells slots Q (F0 m 1388 ls []) := by
  obtain ⟨hx, hb, hml, hown, hts, hK, hN⟩ := id hC
  refine lv_aload_n hx hb dL_law_1388 rfl (lv_at hl 1 rfl) ?_
  refine lv_aload_n hx hb dL_law_1389 rfl (lv_at hl 0 rfl) ?_
  refine lv_iload_n hx hb dL_law_1390 rfl (lv_at hl 3 rfl) ?_
  refine lv_iconst (v := 1) hx hb dL_law_1391 (by decide) ?_
  refine lv_iadd hx hb dL_law_1392 ?_
  refine kl_ld (k := 1) hC hX hbl hi hL hW (by decide) (by decide) dL_law_1393 ?_
  obtain ⟨v, u, w, h1, h2, hR⟩ := hs μ ν (xs (6 * i + 1)) hRel
  refine kd_i hW (kd_run hC hW hl.1 (t_vs_pace h1) ⟨rfl, rfl⟩ cw_L_151 (wx_0 (gx D cs α) μ) rfl rfl rfl (Nat.le_of_ble_eq_true rfl) dL_law_1394 ⟨Nat.le_of_ble_eq_true rfl, Nat.le_of_ble_eq_true rfl⟩ ⟨Nat.le_of_succ_le hcs.1, Nat.le_trans (Nat.le_add_right slots 5) hcs.2⟩) (fun H locs hW => ?_)
  have hW2 : wA (gx D cs β) (wm (gx D cs β) ν ++ wx (gx D cs α) u) (fun q => s.heap.size ≤ q) s.heap H locs := kd_swap hW
  refine lv_aload_n hx hb dL_law_1397 rfl (lv_at hl 2 rfl) ?_
  refine lv_aload_n hx hb dL_law_1398 rfl (lv_at hl 0 rfl) ?_
  refine lv_iload_n hx hb dL_law_1399 rfl (lv_at hl 3 rfl) ?_
  refine lv_iconst (v := 1) hx hb dL_law_1400 (by decide) ?_
  refine lv_iadd hx hb dL_law_1401 ?_
  refine kl_ld (k := 1) hC hX hbl hi hL hW (by decide) (by decide) dL_law_1402 ?_
  have hC2 : Cx (gx D cs β) RL code 4 p s m #[Value.ref b] c := hC
  refine kd_i hW2 (kd_run hC2 hW2 hl.1 (t_md_pace h2) ⟨rfl, rfl⟩ cw_L_154 (wm_0 (gx D cs β) ν) rfl rfl rfl (Nat.le_of_ble_eq_true rfl) dL_law_1403 ⟨Nat.le_of_ble_eq_true rfl, Nat.le_of_ble_eq_true rfl⟩ ⟨Nat.le_of_succ_le hcs.1, Nat.le_trans (Nat.le_add_right slots 5) hcs.2⟩) (fun H locs hW => ?_)
  refine lv_icmp_eq (tgt := 1751) hx hb dL_law_1406 (by decide) (fun _ => ?_) (fun hc => absurd rfl hc)
  refine W.widen (k := cells + 1) (n := slots + 5) (Nat.le_succ _) (Nat.le_add_right _ _) ?_
  exact kk α u w rfl hR (kd_swap hW) hl
set_option maxHeartbeats 4000000 in
set_option maxRecDepth 100000 in
theorem lc_32 (hC : Cx (gx D cs α) RL code 4 p s m #[Value.ref b] c) (hX : va_X b L xs s s.heap) (hbl : b < s.heap.size) (hi : 6 * i + 6 ≤ L) (hL : L ≤ 3072) (hs : ST_round Rel) (hRel : Rel μ ν) (hcs : cells + 1 ≤ 600000 ∧ slots + 5 ≤ 7302250) (hW : wA (gx D cs α) (wx (gx D cs α) μ ++ wm (gx D cs β) ν) (fun q => s.heap.size ≤ q) s.heap H locs) (hl : lv_has ls 4 [(0, .ref b), (1, .ref (ad (gx D cs α) 0)), (2, .ref (ad (gx D cs β) 0)), (3, .int (nI (6 * i)))])
    (kk : ∀ {H : Heap} {locs : List Loc} {ls : Array Slot} (z : Nat → Nat) (μ ν : Mm), z 0 = ad (gx D cs α) 0 → Rel μ ν → wA (gx D cs α) (wx (gx D cs z) μ ++ wm (gx D cs β) ν) (fun q => s.heap.size ≤ q) s.heap H locs → lv_has ls 4 [(0, .ref b), (1, .ref (ad (gx D cs α) 0)), (2, .ref (ad (gx D cs β) 0)), (3, .int (nI (6 * i)))] → W p l e room_1 s m #[Value.ref b] below meth c H locs (cells + 1) (slots + 5) Q (F0 m 1751 ls [])) : W p l e room_1 s m #[Value.ref b] below meth c H locs cells slots Q (F0 m 1411 ls []) := by
  obtain ⟨hx, hb, hml, hown, hts, hK, hN⟩ := id hC
  refine lv_aload_n hx hb dL_law_1411 rfl (lv_at hl 1 rfl) ?_
  refine lv_aload_n hx hb dL_law_1412 rfl (lv_at hl 0 rfl) ?_
  refine lv_iload_n hx hb dL_law_1413 rfl (lv_at hl 3 rfl) ?_
  refine lv_iconst (v := 1) hx hb dL_law_1414 (by decide) ?_
  refine lv_iadd hx hb dL_law_1415 ?_
  refine kl_ld (k := 1) hC hX hbl hi hL hW (by decide) (by decide) dL_law_1416 ?_
  refine lv_aload_n hx hb dL_law_1417 rfl (lv_at hl 0 rfl) ?_
  refine lv_iload_n hx hb dL_law_1418 rfl (lv_at hl 3 rfl) ?_
  refine lv_iconst (v := 2) hx hb dL_law_1419 (by decide) ?_
  refine lv_iadd hx hb dL_law_1420 ?_
  refine kl_ld (k := 2) hC hX hbl hi hL hW (by decide) (by decide) dL_law_1421 ?_
  refine lv_aload_n hx hb dL_law_1422 rfl (lv_at hl 0 rfl) ?_
  refine lv_iload_n hx hb dL_law_1423 rfl (lv_at hl 3 rfl) ?_
  refine lv_iconst (v := 3) hx hb dL_law_1424 (by decide) ?_
  refine lv_iadd hx hb dL_law_1425 ?_
  refine kl_ld (k := 3) hC hX hbl hi hL hW (by decide) (by decide) dL_law_1426 ?_
  obtain ⟨v, u, w, h1, h2, hR⟩ := hs μ ν (xs (6 * i + 1)) (xs (6 * i + 2)) (xs (6 * i + 3)) hRel
  refine kd_i hW (kd_run hC hW hl.1 (t_vs_round h1) ⟨rfl, rfl⟩ cw_L_155 (wx_0 (gx D cs α) μ) rfl rfl rfl (Nat.le_of_ble_eq_true rfl) dL_law_1427 ⟨Nat.le_of_ble_eq_true rfl, Nat.le_of_ble_eq_true rfl⟩ ⟨Nat.le_of_succ_le hcs.1, Nat.le_trans (Nat.le_add_right slots 5) hcs.2⟩) (fun H locs hW => ?_)
  have hW2 : wA (gx D cs β) (wm (gx D cs β) ν ++ wx (gx D cs α) u) (fun q => s.heap.size ≤ q) s.heap H locs := kd_swap hW
  refine lv_aload_n hx hb dL_law_1430 rfl (lv_at hl 2 rfl) ?_
  refine lv_aload_n hx hb dL_law_1431 rfl (lv_at hl 0 rfl) ?_
  refine lv_iload_n hx hb dL_law_1432 rfl (lv_at hl 3 rfl) ?_
  refine lv_iconst (v := 1) hx hb dL_law_1433 (by decide) ?_
  refine lv_iadd hx hb dL_law_1434 ?_
  refine kl_ld (k := 1) hC hX hbl hi hL hW (by decide) (by decide) dL_law_1435 ?_
  refine lv_aload_n hx hb dL_law_1436 rfl (lv_at hl 0 rfl) ?_
  refine lv_iload_n hx hb dL_law_1437 rfl (lv_at hl 3 rfl) ?_
  refine lv_iconst (v := 2) hx hb dL_law_1438 (by decide) ?_
  refine lv_iadd hx hb dL_law_1439 ?_
  refine kl_ld (k := 2) hC hX hbl hi hL hW (by decide) (by decide) dL_law_1440 ?_
  refine lv_aload_n hx hb dL_law_1441 rfl (lv_at hl 0 rfl) ?_
  refine lv_iload_n hx hb dL_law_1442 rfl (lv_at hl 3 rfl) ?_
  refine lv_iconst (v := 3) hx hb dL_law_1443 (by decide) ?_
  refine lv_iadd hx hb dL_law_1444 ?_
  refine kl_ld (k := 3) hC hX hbl hi hL hW (by decide) (by decide) dL_law_1445 ?_
  have hC2 : Cx (gx D cs β) RL code 4 p s m #[Value.ref b] c := hC
  refine kd_i hW2 (kd_run hC2 hW2 hl.1 (t_md_round h2) ⟨rfl, rfl⟩ cw_L_158 (wm_0 (gx D cs β) ν) rfl rfl rfl (Nat.le_of_ble_eq_true rfl) dL_law_1446 ⟨Nat.le_of_ble_eq_true rfl, Nat.le_of_ble_eq_true rfl⟩ ⟨Nat.le_of_succ_le hcs.1, Nat.le_trans (Nat.le_add_right slots 5) hcs.2⟩) (fun H locs hW => ?_)
  refine lv_icmp_eq (tgt := 1751) hx hb dL_law_1449 (by decide) (fun _ => ?_) (fun hc => absurd rfl hc)
  refine W.widen (k := cells + 1) (n := slots + 5) (Nat.le_succ _) (Nat.le_add_right _ _) ?_
  exact kk α u w rfl hR (kd_swap hW) hl
set_option maxHeartbeats 4000000 in
set_option maxRecDepth 100000 in
theorem lc_33 (hC : Cx (gx D cs α) RL code 4 p s m #[Value.ref b] c) (hX : va_X b L xs s s.heap) (hbl : b < s.heap.size) (hi : 6 * i + 6 ≤ L) (hL : L ≤ 3072) (hs : ST_went Rel) (hRel : Rel μ ν) (hcs : cells + 1 ≤ 600000 ∧ slots + 5 ≤ 7302250) (hW : wA (gx D cs α) (wx (gx D cs α) μ ++ wm (gx D cs β) ν) (fun q => s.heap.size ≤ q) s.heap H locs) (hl : lv_has ls 4 [(0, .ref b), (1, .ref (ad (gx D cs α) 0)), (2, .ref (ad (gx D cs β) 0)), (3, .int (nI (6 * i)))])
    (kk : ∀ {H : Heap} {locs : List Loc} {ls : Array Slot} (z : Nat → Nat) (μ ν : Mm), z 0 = ad (gx D cs α) 0 → Rel μ ν → wA (gx D cs α) (wx (gx D cs z) μ ++ wm (gx D cs β) ν) (fun q => s.heap.size ≤ q) s.heap H locs → lv_has ls 4 [(0, .ref b), (1, .ref (ad (gx D cs α) 0)), (2, .ref (ad (gx D cs β) 0)), (3, .int (nI (6 * i)))] → W p l e room_1 s m #[Value.ref b] below meth c H locs (cells + 1) (slots + 5) Q (F0 m 1751 ls [])) : W p l e room_1 s m #[Value.ref b] below meth c H locs cells slots Q (F0 m 1454 ls []) := by
  obtain ⟨hx, hb, hml, hown, hts, hK, hN⟩ := id hC
  refine lv_aload_n hx hb dL_law_1454 rfl (lv_at hl 1 rfl) ?_
  refine lv_aload_n hx hb dL_law_1455 rfl (lv_at hl 0 rfl) ?_
  refine lv_iload_n hx hb dL_law_1456 rfl (lv_at hl 3 rfl) ?_
  refine lv_iconst (v := 1) hx hb dL_law_1457 (by decide) ?_
  refine lv_iadd hx hb dL_law_1458 ?_
  refine kl_ld (k := 1) hC hX hbl hi hL hW (by decide) (by decide) dL_law_1459 ?_
  refine lv_aload_n hx hb dL_law_1460 rfl (lv_at hl 0 rfl) ?_
  refine lv_iload_n hx hb dL_law_1461 rfl (lv_at hl 3 rfl) ?_
  refine lv_iconst (v := 2) hx hb dL_law_1462 (by decide) ?_
  refine lv_iadd hx hb dL_law_1463 ?_
  refine kl_ld (k := 2) hC hX hbl hi hL hW (by decide) (by decide) dL_law_1464 ?_
  obtain ⟨v, u, w, h1, h2, hR⟩ := hs μ ν (xs (6 * i + 1)) (xs (6 * i + 2)) hRel
  refine kd_i hW (kd_run hC hW hl.1 (t_vs_went h1) ⟨rfl, rfl⟩ cw_L_159 (wx_0 (gx D cs α) μ) rfl rfl rfl (Nat.le_of_ble_eq_true rfl) dL_law_1465 ⟨Nat.le_of_ble_eq_true rfl, Nat.le_of_ble_eq_true rfl⟩ ⟨Nat.le_of_succ_le hcs.1, Nat.le_trans (Nat.le_add_right slots 5) hcs.2⟩) (fun H locs hW => ?_)
  have hW2 : wA (gx D cs β) (wm (gx D cs β) ν ++ wx (gx D cs α) u) (fun q => s.heap.size ≤ q) s.heap H locs := kd_swap hW
  refine lv_aload_n hx hb dL_law_1468 rfl (lv_at hl 2 rfl) ?_
  refine lv_aload_n hx hb dL_law_1469 rfl (lv_at hl 0 rfl) ?_
  refine lv_iload_n hx hb dL_law_1470 rfl (lv_at hl 3 rfl) ?_
  refine lv_iconst (v := 1) hx hb dL_law_1471 (by decide) ?_
  refine lv_iadd hx hb dL_law_1472 ?_
  refine kl_ld (k := 1) hC hX hbl hi hL hW (by decide) (by decide) dL_law_1473 ?_
  refine lv_aload_n hx hb dL_law_1474 rfl (lv_at hl 0 rfl) ?_
  refine lv_iload_n hx hb dL_law_1475 rfl (lv_at hl 3 rfl) ?_
  refine lv_iconst (v := 2) hx hb dL_law_1476 (by decide) ?_
  refine lv_iadd hx hb dL_law_1477 ?_
  refine kl_ld (k := 2) hC hX hbl hi hL hW (by decide) (by decide) dL_law_1478 ?_
  have hC2 : Cx (gx D cs β) RL code 4 p s m #[Value.ref b] c := hC
  refine kd_i hW2 (kd_run hC2 hW2 hl.1 (t_md_went h2) ⟨rfl, rfl⟩ cw_L_162 (wm_0 (gx D cs β) ν) rfl rfl rfl (Nat.le_of_ble_eq_true rfl) dL_law_1479 ⟨Nat.le_of_ble_eq_true rfl, Nat.le_of_ble_eq_true rfl⟩ ⟨Nat.le_of_succ_le hcs.1, Nat.le_trans (Nat.le_add_right slots 5) hcs.2⟩) (fun H locs hW => ?_)
  refine lv_icmp_eq (tgt := 1751) hx hb dL_law_1482 (by decide) (fun _ => ?_) (fun hc => absurd rfl hc)
  refine W.widen (k := cells + 1) (n := slots + 5) (Nat.le_succ _) (Nat.le_add_right _ _) ?_
  exact kk α u w rfl hR (kd_swap hW) hl
set_option maxHeartbeats 4000000 in
set_option maxRecDepth 100000 in
theorem lc_34 (hC : Cx (gx D cs α) RL code 4 p s m #[Value.ref b] c) (hX : va_X b L xs s s.heap) (hbl : b < s.heap.size) (hi : 6 * i + 6 ≤ L) (hL : L ≤ 3072) (hs : ST_lostDay Rel) (hRel : Rel μ ν) (hcs : cells + 1 ≤ 600000 ∧ slots + 5 ≤ 7302250) (hW : wA (gx D cs α) (wx (gx D cs α) μ ++ wm (gx D cs β) ν) (fun q => s.heap.size ≤ q) s.heap H locs) (hl : lv_has ls 4 [(0, .ref b), (1, .ref (ad (gx D cs α) 0)), (2, .ref (ad (gx D cs β) 0)), (3, .int (nI (6 * i)))])
    (kk : ∀ {H : Heap} {locs : List Loc} {ls : Array Slot} (z : Nat → Nat) (μ ν : Mm), z 0 = ad (gx D cs α) 0 → Rel μ ν → wA (gx D cs α) (wx (gx D cs z) μ ++ wm (gx D cs β) ν) (fun q => s.heap.size ≤ q) s.heap H locs → lv_has ls 4 [(0, .ref b), (1, .ref (ad (gx D cs α) 0)), (2, .ref (ad (gx D cs β) 0)), (3, .int (nI (6 * i)))] → W p l e room_1 s m #[Value.ref b] below meth c H locs (cells + 1) (slots + 5) Q (F0 m 1751 ls [])) : W p l e room_1 s m #[Value.ref b] below meth c H locs cells slots Q (F0 m 1487 ls []) := by
  obtain ⟨hx, hb, hml, hown, hts, hK, hN⟩ := id hC
  refine lv_aload_n hx hb dL_law_1487 rfl (lv_at hl 1 rfl) ?_
  refine lv_aload_n hx hb dL_law_1488 rfl (lv_at hl 0 rfl) ?_
  refine lv_iload_n hx hb dL_law_1489 rfl (lv_at hl 3 rfl) ?_
  refine lv_iconst (v := 1) hx hb dL_law_1490 (by decide) ?_
  refine lv_iadd hx hb dL_law_1491 ?_
  refine kl_ld (k := 1) hC hX hbl hi hL hW (by decide) (by decide) dL_law_1492 ?_
  refine lv_aload_n hx hb dL_law_1493 rfl (lv_at hl 0 rfl) ?_
  refine lv_iload_n hx hb dL_law_1494 rfl (lv_at hl 3 rfl) ?_
  refine lv_iconst (v := 2) hx hb dL_law_1495 (by decide) ?_
  refine lv_iadd hx hb dL_law_1496 ?_
  refine kl_ld (k := 2) hC hX hbl hi hL hW (by decide) (by decide) dL_law_1497 ?_
  refine lv_aload_n hx hb dL_law_1498 rfl (lv_at hl 0 rfl) ?_
  refine lv_iload_n hx hb dL_law_1499 rfl (lv_at hl 3 rfl) ?_
  refine lv_iconst (v := 3) hx hb dL_law_1500 (by decide) ?_
  refine lv_iadd hx hb dL_law_1501 ?_
  refine kl_ld (k := 3) hC hX hbl hi hL hW (by decide) (by decide) dL_law_1502 ?_
  refine lv_aload_n hx hb dL_law_1503 rfl (lv_at hl 0 rfl) ?_
  refine lv_iload_n hx hb dL_law_1504 rfl (lv_at hl 3 rfl) ?_
  refine lv_iconst (v := 4) hx hb dL_law_1505 (by decide) ?_
  refine lv_iadd hx hb dL_law_1506 ?_
  refine kl_ld (k := 4) hC hX hbl hi hL hW (by decide) (by decide) dL_law_1507 ?_
  obtain ⟨v, u, w, h1, h2, hR⟩ := hs μ ν (xs (6 * i + 1)) (xs (6 * i + 2)) (xs (6 * i + 3)) (xs (6 * i + 4)) hRel
  refine kd_i hW (kd_run hC hW hl.1 (t_vs_lostDay h1) ⟨rfl, rfl⟩ cw_L_163 (wx_0 (gx D cs α) μ) rfl rfl rfl (Nat.le_of_ble_eq_true rfl) dL_law_1508 ⟨Nat.le_of_ble_eq_true rfl, Nat.le_of_ble_eq_true rfl⟩ ⟨Nat.le_of_succ_le hcs.1, Nat.le_trans (Nat.le_add_right slots 5) hcs.2⟩) (fun H locs hW => ?_)
  have hW2 : wA (gx D cs β) (wm (gx D cs β) ν ++ wx (gx D cs α) u) (fun q => s.heap.size ≤ q) s.heap H locs := kd_swap hW
  refine lv_aload_n hx hb dL_law_1511 rfl (lv_at hl 2 rfl) ?_
  refine lv_aload_n hx hb dL_law_1512 rfl (lv_at hl 0 rfl) ?_
  refine lv_iload_n hx hb dL_law_1513 rfl (lv_at hl 3 rfl) ?_
  refine lv_iconst (v := 1) hx hb dL_law_1514 (by decide) ?_
  refine lv_iadd hx hb dL_law_1515 ?_
  refine kl_ld (k := 1) hC hX hbl hi hL hW (by decide) (by decide) dL_law_1516 ?_
  refine lv_aload_n hx hb dL_law_1517 rfl (lv_at hl 0 rfl) ?_
  refine lv_iload_n hx hb dL_law_1518 rfl (lv_at hl 3 rfl) ?_
  refine lv_iconst (v := 2) hx hb dL_law_1519 (by decide) ?_
  refine lv_iadd hx hb dL_law_1520 ?_
  refine kl_ld (k := 2) hC hX hbl hi hL hW (by decide) (by decide) dL_law_1521 ?_
  refine lv_aload_n hx hb dL_law_1522 rfl (lv_at hl 0 rfl) ?_
  refine lv_iload_n hx hb dL_law_1523 rfl (lv_at hl 3 rfl) ?_
  refine lv_iconst (v := 3) hx hb dL_law_1524 (by decide) ?_
  refine lv_iadd hx hb dL_law_1525 ?_
  refine kl_ld (k := 3) hC hX hbl hi hL hW (by decide) (by decide) dL_law_1526 ?_
  refine lv_aload_n hx hb dL_law_1527 rfl (lv_at hl 0 rfl) ?_
  refine lv_iload_n hx hb dL_law_1528 rfl (lv_at hl 3 rfl) ?_
  refine lv_iconst (v := 4) hx hb dL_law_1529 (by decide) ?_
  refine lv_iadd hx hb dL_law_1530 ?_
  refine kl_ld (k := 4) hC hX hbl hi hL hW (by decide) (by decide) dL_law_1531 ?_
  have hC2 : Cx (gx D cs β) RL code 4 p s m #[Value.ref b] c := hC
  refine kd_i hW2 (kd_run hC2 hW2 hl.1 (t_md_lostDay h2) ⟨rfl, rfl⟩ cw_L_166 (wm_0 (gx D cs β) ν) rfl rfl rfl (Nat.le_of_ble_eq_true rfl) dL_law_1532 ⟨Nat.le_of_ble_eq_true rfl, Nat.le_of_ble_eq_true rfl⟩ ⟨Nat.le_of_succ_le hcs.1, Nat.le_trans (Nat.le_add_right slots 5) hcs.2⟩) (fun H locs hW => ?_)
  refine lv_icmp_eq (tgt := 1751) hx hb dL_law_1535 (by decide) (fun _ => ?_) (fun hc => absurd rfl hc)
  refine W.widen (k := cells + 1) (n := slots + 5) (Nat.le_succ _) (Nat.le_add_right _ _) ?_
  exact kk α u w rfl hR (kd_swap hW) hl
set_option maxHeartbeats 4000000 in
set_option maxRecDepth 100000 in
theorem lc_35 (hC : Cx (gx D cs α) RL code 4 p s m #[Value.ref b] c) (hX : va_X b L xs s s.heap) (hbl : b < s.heap.size) (hi : 6 * i + 6 ≤ L) (hL : L ≤ 3072) (hs : ST_put Rel) (hRel : Rel μ ν) (hcs : cells + 1 ≤ 600000 ∧ slots + 5 ≤ 7302250) (hW : wA (gx D cs α) (wx (gx D cs α) μ ++ wm (gx D cs β) ν) (fun q => s.heap.size ≤ q) s.heap H locs) (hl : lv_has ls 4 [(0, .ref b), (1, .ref (ad (gx D cs α) 0)), (2, .ref (ad (gx D cs β) 0)), (3, .int (nI (6 * i)))])
    (kk : ∀ {H : Heap} {locs : List Loc} {ls : Array Slot} (z : Nat → Nat) (μ ν : Mm), z 0 = ad (gx D cs α) 0 → Rel μ ν → wA (gx D cs α) (wx (gx D cs z) μ ++ wm (gx D cs β) ν) (fun q => s.heap.size ≤ q) s.heap H locs → lv_has ls 4 [(0, .ref b), (1, .ref (ad (gx D cs α) 0)), (2, .ref (ad (gx D cs β) 0)), (3, .int (nI (6 * i)))] → W p l e room_1 s m #[Value.ref b] below meth c H locs (cells + 1) (slots + 5) Q (F0 m 1751 ls [])) : W p l e room_1 s m #[Value.ref b] below meth c H locs cells slots Q (F0 m 1540 ls []) := by
  obtain ⟨hx, hb, hml, hown, hts, hK, hN⟩ := id hC
  refine lv_aload_n hx hb dL_law_1540 rfl (lv_at hl 1 rfl) ?_
  refine lv_aload_n hx hb dL_law_1541 rfl (lv_at hl 0 rfl) ?_
  refine lv_iload_n hx hb dL_law_1542 rfl (lv_at hl 3 rfl) ?_
  refine lv_iconst (v := 1) hx hb dL_law_1543 (by decide) ?_
  refine lv_iadd hx hb dL_law_1544 ?_
  refine kl_ld (k := 1) hC hX hbl hi hL hW (by decide) (by decide) dL_law_1545 ?_
  refine lv_aload_n hx hb dL_law_1546 rfl (lv_at hl 0 rfl) ?_
  refine lv_iload_n hx hb dL_law_1547 rfl (lv_at hl 3 rfl) ?_
  refine lv_iconst (v := 2) hx hb dL_law_1548 (by decide) ?_
  refine lv_iadd hx hb dL_law_1549 ?_
  refine kl_ld (k := 2) hC hX hbl hi hL hW (by decide) (by decide) dL_law_1550 ?_
  obtain ⟨v, h1, h2, hR⟩ := hs μ ν (xs (6 * i + 1)) (xs (6 * i + 2)) hRel
  refine kd_i hW (kd_run hC hW hl.1 (t_vs_put h1) ⟨rfl, rfl⟩ cw_L_167 (wx_0 (gx D cs α) μ) rfl rfl rfl (Nat.le_of_ble_eq_true rfl) dL_law_1551 ⟨Nat.le_of_ble_eq_true rfl, Nat.le_of_ble_eq_true rfl⟩ ⟨Nat.le_of_succ_le hcs.1, Nat.le_trans (Nat.le_add_right slots 5) hcs.2⟩) (fun H locs hW => ?_)
  have hW2 : wA (gx D cs β) (wm (gx D cs β) ν ++ wx (gx D cs α) μ) (fun q => s.heap.size ≤ q) s.heap H locs := kd_swap hW
  refine lv_aload_n hx hb dL_law_1554 rfl (lv_at hl 2 rfl) ?_
  refine lv_aload_n hx hb dL_law_1555 rfl (lv_at hl 0 rfl) ?_
  refine lv_iload_n hx hb dL_law_1556 rfl (lv_at hl 3 rfl) ?_
  refine lv_iconst (v := 1) hx hb dL_law_1557 (by decide) ?_
  refine lv_iadd hx hb dL_law_1558 ?_
  refine kl_ld (k := 1) hC hX hbl hi hL hW (by decide) (by decide) dL_law_1559 ?_
  refine lv_aload_n hx hb dL_law_1560 rfl (lv_at hl 0 rfl) ?_
  refine lv_iload_n hx hb dL_law_1561 rfl (lv_at hl 3 rfl) ?_
  refine lv_iconst (v := 2) hx hb dL_law_1562 (by decide) ?_
  refine lv_iadd hx hb dL_law_1563 ?_
  refine kl_ld (k := 2) hC hX hbl hi hL hW (by decide) (by decide) dL_law_1564 ?_
  have hC2 : Cx (gx D cs β) RL code 4 p s m #[Value.ref b] c := hC
  refine kd_i hW2 (kd_run hC2 hW2 hl.1 (t_md_put h2) ⟨rfl, rfl⟩ cw_L_170 (wm_0 (gx D cs β) ν) rfl rfl rfl (Nat.le_of_ble_eq_true rfl) dL_law_1565 ⟨Nat.le_of_ble_eq_true rfl, Nat.le_of_ble_eq_true rfl⟩ ⟨Nat.le_of_succ_le hcs.1, Nat.le_trans (Nat.le_add_right slots 5) hcs.2⟩) (fun H locs hW => ?_)
  refine lv_icmp_eq (tgt := 1751) hx hb dL_law_1568 (by decide) (fun _ => ?_) (fun hc => absurd rfl hc)
  refine W.widen (k := cells + 1) (n := slots + 5) (Nat.le_succ _) (Nat.le_add_right _ _) ?_
  exact kk α μ ν rfl hR (kd_swap hW) hl
set_option maxHeartbeats 4000000 in
set_option maxRecDepth 100000 in
theorem lc_36 (hC : Cx (gx D cs α) RL code 4 p s m #[Value.ref b] c) (hX : va_X b L xs s s.heap) (hbl : b < s.heap.size) (hi : 6 * i + 6 ≤ L) (hL : L ≤ 3072) (hs : ST_knownIn Rel) (hRel : Rel μ ν) (hcs : cells + 1 ≤ 600000 ∧ slots + 5 ≤ 7302250) (hW : wA (gx D cs α) (wx (gx D cs α) μ ++ wm (gx D cs β) ν) (fun q => s.heap.size ≤ q) s.heap H locs) (hl : lv_has ls 4 [(0, .ref b), (1, .ref (ad (gx D cs α) 0)), (2, .ref (ad (gx D cs β) 0)), (3, .int (nI (6 * i)))])
    (kk : ∀ {H : Heap} {locs : List Loc} {ls : Array Slot} (z : Nat → Nat) (μ ν : Mm), z 0 = ad (gx D cs α) 0 → Rel μ ν → wA (gx D cs α) (wx (gx D cs z) μ ++ wm (gx D cs β) ν) (fun q => s.heap.size ≤ q) s.heap H locs → lv_has ls 4 [(0, .ref b), (1, .ref (ad (gx D cs α) 0)), (2, .ref (ad (gx D cs β) 0)), (3, .int (nI (6 * i)))] → W p l e room_1 s m #[Value.ref b] below meth c H locs (cells + 1) (slots + 5) Q (F0 m 1751 ls [])) : W p l e room_1 s m #[Value.ref b] below meth c H locs cells slots Q (F0 m 1573 ls []) := by
  obtain ⟨hx, hb, hml, hown, hts, hK, hN⟩ := id hC
  refine lv_aload_n hx hb dL_law_1573 rfl (lv_at hl 1 rfl) ?_
  refine lv_aload_n hx hb dL_law_1574 rfl (lv_at hl 0 rfl) ?_
  refine lv_iload_n hx hb dL_law_1575 rfl (lv_at hl 3 rfl) ?_
  refine lv_iconst (v := 1) hx hb dL_law_1576 (by decide) ?_
  refine lv_iadd hx hb dL_law_1577 ?_
  refine kl_ld (k := 1) hC hX hbl hi hL hW (by decide) (by decide) dL_law_1578 ?_
  obtain ⟨v, u, w, h1, h2, hR⟩ := hs μ ν (xs (6 * i + 1)) hRel
  refine kd_i hW (kd_run hC hW hl.1 (t_vs_knownIn h1) ⟨rfl, rfl⟩ cw_L_171 (wx_0 (gx D cs α) μ) rfl rfl rfl (Nat.le_of_ble_eq_true rfl) dL_law_1579 ⟨Nat.le_of_ble_eq_true rfl, Nat.le_of_ble_eq_true rfl⟩ ⟨Nat.le_of_succ_le hcs.1, Nat.le_trans (Nat.le_add_right slots 5) hcs.2⟩) (fun H locs hW => ?_)
  have hW2 : wA (gx D cs β) (wm (gx D cs β) ν ++ wx (gx D cs α) u) (fun q => s.heap.size ≤ q) s.heap H locs := kd_swap hW
  refine lv_aload_n hx hb dL_law_1582 rfl (lv_at hl 2 rfl) ?_
  refine lv_aload_n hx hb dL_law_1583 rfl (lv_at hl 0 rfl) ?_
  refine lv_iload_n hx hb dL_law_1584 rfl (lv_at hl 3 rfl) ?_
  refine lv_iconst (v := 1) hx hb dL_law_1585 (by decide) ?_
  refine lv_iadd hx hb dL_law_1586 ?_
  refine kl_ld (k := 1) hC hX hbl hi hL hW (by decide) (by decide) dL_law_1587 ?_
  have hC2 : Cx (gx D cs β) RL code 4 p s m #[Value.ref b] c := hC
  refine kd_i hW2 (kd_run hC2 hW2 hl.1 (t_md_knownIn h2) ⟨rfl, rfl⟩ cw_L_174 (wm_0 (gx D cs β) ν) rfl rfl rfl (Nat.le_of_ble_eq_true rfl) dL_law_1588 ⟨Nat.le_of_ble_eq_true rfl, Nat.le_of_ble_eq_true rfl⟩ ⟨Nat.le_of_succ_le hcs.1, Nat.le_trans (Nat.le_add_right slots 5) hcs.2⟩) (fun H locs hW => ?_)
  refine lv_icmp_eq (tgt := 1751) hx hb dL_law_1591 (by decide) (fun _ => ?_) (fun hc => absurd rfl hc)
  refine W.widen (k := cells + 1) (n := slots + 5) (Nat.le_succ _) (Nat.le_add_right _ _) ?_
  exact kk α u w rfl hR (kd_swap hW) hl
set_option maxHeartbeats 4000000 in
set_option maxRecDepth 100000 in
theorem lc_37 (hC : Cx (gx D cs α) RL code 4 p s m #[Value.ref b] c) (hX : va_X b L xs s s.heap) (hbl : b < s.heap.size) (hi : 6 * i + 6 ≤ L) (hL : L ≤ 3072) (hs : ST_where Rel) (hRel : Rel μ ν) (hcs : cells + 1 ≤ 600000 ∧ slots + 5 ≤ 7302250) (hW : wA (gx D cs α) (wx (gx D cs α) μ ++ wm (gx D cs β) ν) (fun q => s.heap.size ≤ q) s.heap H locs) (hl : lv_has ls 4 [(0, .ref b), (1, .ref (ad (gx D cs α) 0)), (2, .ref (ad (gx D cs β) 0)), (3, .int (nI (6 * i)))])
    (kk : ∀ {H : Heap} {locs : List Loc} {ls : Array Slot} (z : Nat → Nat) (μ ν : Mm), z 0 = ad (gx D cs α) 0 → Rel μ ν → wA (gx D cs α) (wx (gx D cs z) μ ++ wm (gx D cs β) ν) (fun q => s.heap.size ≤ q) s.heap H locs → lv_has ls 4 [(0, .ref b), (1, .ref (ad (gx D cs α) 0)), (2, .ref (ad (gx D cs β) 0)), (3, .int (nI (6 * i)))] → W p l e room_1 s m #[Value.ref b] below meth c H locs (cells + 1) (slots + 5) Q (F0 m 1751 ls [])) : W p l e room_1 s m #[Value.ref b] below meth c H locs cells slots Q (F0 m 1596 ls []) := by
  obtain ⟨hx, hb, hml, hown, hts, hK, hN⟩ := id hC
  refine lv_aload_n hx hb dL_law_1596 rfl (lv_at hl 1 rfl) ?_
  refine lv_aload_n hx hb dL_law_1597 rfl (lv_at hl 0 rfl) ?_
  refine lv_iload_n hx hb dL_law_1598 rfl (lv_at hl 3 rfl) ?_
  refine lv_iconst (v := 1) hx hb dL_law_1599 (by decide) ?_
  refine lv_iadd hx hb dL_law_1600 ?_
  refine kl_ld (k := 1) hC hX hbl hi hL hW (by decide) (by decide) dL_law_1601 ?_
  refine lv_aload_n hx hb dL_law_1602 rfl (lv_at hl 0 rfl) ?_
  refine lv_iload_n hx hb dL_law_1603 rfl (lv_at hl 3 rfl) ?_
  refine lv_iconst (v := 2) hx hb dL_law_1604 (by decide) ?_
  refine lv_iadd hx hb dL_law_1605 ?_
  refine kl_ld (k := 2) hC hX hbl hi hL hW (by decide) (by decide) dL_law_1606 ?_
  refine lv_aload_n hx hb dL_law_1607 rfl (lv_at hl 0 rfl) ?_
  refine lv_iload_n hx hb dL_law_1608 rfl (lv_at hl 3 rfl) ?_
  refine lv_iconst (v := 3) hx hb dL_law_1609 (by decide) ?_
  refine lv_iadd hx hb dL_law_1610 ?_
  refine kl_ld (k := 3) hC hX hbl hi hL hW (by decide) (by decide) dL_law_1611 ?_
  obtain ⟨v, h1, h2, hR⟩ := hs μ ν (xs (6 * i + 1)) (xs (6 * i + 2)) (xs (6 * i + 3)) hRel
  refine kd_i hW (kd_run hC hW hl.1 (t_vs_where h1) ⟨rfl, rfl⟩ cw_L_175 (wx_0 (gx D cs α) μ) rfl rfl rfl (Nat.le_of_ble_eq_true rfl) dL_law_1612 ⟨Nat.le_of_ble_eq_true rfl, Nat.le_of_ble_eq_true rfl⟩ ⟨Nat.le_of_succ_le hcs.1, Nat.le_trans (Nat.le_add_right slots 5) hcs.2⟩) (fun H locs hW => ?_)
  have hW2 : wA (gx D cs β) (wm (gx D cs β) ν ++ wx (gx D cs α) μ) (fun q => s.heap.size ≤ q) s.heap H locs := kd_swap hW
  refine lv_aload_n hx hb dL_law_1615 rfl (lv_at hl 2 rfl) ?_
  refine lv_aload_n hx hb dL_law_1616 rfl (lv_at hl 0 rfl) ?_
  refine lv_iload_n hx hb dL_law_1617 rfl (lv_at hl 3 rfl) ?_
  refine lv_iconst (v := 1) hx hb dL_law_1618 (by decide) ?_
  refine lv_iadd hx hb dL_law_1619 ?_
  refine kl_ld (k := 1) hC hX hbl hi hL hW (by decide) (by decide) dL_law_1620 ?_
  refine lv_aload_n hx hb dL_law_1621 rfl (lv_at hl 0 rfl) ?_
  refine lv_iload_n hx hb dL_law_1622 rfl (lv_at hl 3 rfl) ?_
  refine lv_iconst (v := 2) hx hb dL_law_1623 (by decide) ?_
  refine lv_iadd hx hb dL_law_1624 ?_
  refine kl_ld (k := 2) hC hX hbl hi hL hW (by decide) (by decide) dL_law_1625 ?_
  refine lv_aload_n hx hb dL_law_1626 rfl (lv_at hl 0 rfl) ?_
  refine lv_iload_n hx hb dL_law_1627 rfl (lv_at hl 3 rfl) ?_
  refine lv_iconst (v := 3) hx hb dL_law_1628 (by decide) ?_
  refine lv_iadd hx hb dL_law_1629 ?_
  refine kl_ld (k := 3) hC hX hbl hi hL hW (by decide) (by decide) dL_law_1630 ?_
  have hC2 : Cx (gx D cs β) RL code 4 p s m #[Value.ref b] c := hC
  refine kd_i hW2 (kd_run hC2 hW2 hl.1 (t_md_where h2) ⟨rfl, rfl⟩ cw_L_178 (wm_0 (gx D cs β) ν) rfl rfl rfl (Nat.le_of_ble_eq_true rfl) dL_law_1631 ⟨Nat.le_of_ble_eq_true rfl, Nat.le_of_ble_eq_true rfl⟩ ⟨Nat.le_of_succ_le hcs.1, Nat.le_trans (Nat.le_add_right slots 5) hcs.2⟩) (fun H locs hW => ?_)
  refine lv_icmp_eq (tgt := 1751) hx hb dL_law_1634 (by decide) (fun _ => ?_) (fun hc => absurd rfl hc)
  refine W.widen (k := cells + 1) (n := slots + 5) (Nat.le_succ _) (Nat.le_add_right _ _) ?_
  exact kk α μ ν rfl hR (kd_swap hW) hl
set_option maxHeartbeats 4000000 in
set_option maxRecDepth 100000 in
theorem lc_38 (hC : Cx (gx D cs α) RL code 4 p s m #[Value.ref b] c) (hX : va_X b L xs s s.heap) (hbl : b < s.heap.size) (hi : 6 * i + 6 ≤ L) (hL : L ≤ 3072) (hs : ST_counts Rel) (hRel : Rel μ ν) (hcs : cells + 1 ≤ 600000 ∧ slots + 5 ≤ 7302250) (hW : wA (gx D cs α) (wx (gx D cs α) μ ++ wm (gx D cs β) ν) (fun q => s.heap.size ≤ q) s.heap H locs) (hl : lv_has ls 4 [(0, .ref b), (1, .ref (ad (gx D cs α) 0)), (2, .ref (ad (gx D cs β) 0)), (3, .int (nI (6 * i)))])
    (kk : ∀ {H : Heap} {locs : List Loc} {ls : Array Slot} (z : Nat → Nat) (μ ν : Mm), z 0 = ad (gx D cs α) 0 → Rel μ ν → wA (gx D cs α) (wx (gx D cs z) μ ++ wm (gx D cs β) ν) (fun q => s.heap.size ≤ q) s.heap H locs → lv_has ls 4 [(0, .ref b), (1, .ref (ad (gx D cs α) 0)), (2, .ref (ad (gx D cs β) 0)), (3, .int (nI (6 * i)))] → W p l e room_1 s m #[Value.ref b] below meth c H locs (cells + 1) (slots + 5) Q (F0 m 1751 ls [])) : W p l e room_1 s m #[Value.ref b] below meth c H locs cells slots Q (F0 m 1639 ls []) := by
  obtain ⟨hx, hb, hml, hown, hts, hK, hN⟩ := id hC
  refine lv_aload_n hx hb dL_law_1639 rfl (lv_at hl 1 rfl) ?_
  refine lv_aload_n hx hb dL_law_1640 rfl (lv_at hl 0 rfl) ?_
  refine lv_iload_n hx hb dL_law_1641 rfl (lv_at hl 3 rfl) ?_
  refine lv_iconst (v := 1) hx hb dL_law_1642 (by decide) ?_
  refine lv_iadd hx hb dL_law_1643 ?_
  refine kl_ld (k := 1) hC hX hbl hi hL hW (by decide) (by decide) dL_law_1644 ?_
  refine lv_aload_n hx hb dL_law_1645 rfl (lv_at hl 0 rfl) ?_
  refine lv_iload_n hx hb dL_law_1646 rfl (lv_at hl 3 rfl) ?_
  refine lv_iconst (v := 2) hx hb dL_law_1647 (by decide) ?_
  refine lv_iadd hx hb dL_law_1648 ?_
  refine kl_ld (k := 2) hC hX hbl hi hL hW (by decide) (by decide) dL_law_1649 ?_
  obtain ⟨v, h1, h2, hR⟩ := hs μ ν (xs (6 * i + 1)) (xs (6 * i + 2)) hRel
  refine kd_i hW (kd_run hC hW hl.1 (t_vs_counts h1) ⟨rfl, rfl⟩ cw_L_179 (wx_0 (gx D cs α) μ) rfl rfl rfl (Nat.le_of_ble_eq_true rfl) dL_law_1650 ⟨Nat.le_of_ble_eq_true rfl, Nat.le_of_ble_eq_true rfl⟩ ⟨Nat.le_of_succ_le hcs.1, Nat.le_trans (Nat.le_add_right slots 5) hcs.2⟩) (fun H locs hW => ?_)
  have hW2 : wA (gx D cs β) (wm (gx D cs β) ν ++ wx (gx D cs α) μ) (fun q => s.heap.size ≤ q) s.heap H locs := kd_swap hW
  refine lv_aload_n hx hb dL_law_1653 rfl (lv_at hl 2 rfl) ?_
  refine lv_aload_n hx hb dL_law_1654 rfl (lv_at hl 0 rfl) ?_
  refine lv_iload_n hx hb dL_law_1655 rfl (lv_at hl 3 rfl) ?_
  refine lv_iconst (v := 1) hx hb dL_law_1656 (by decide) ?_
  refine lv_iadd hx hb dL_law_1657 ?_
  refine kl_ld (k := 1) hC hX hbl hi hL hW (by decide) (by decide) dL_law_1658 ?_
  refine lv_aload_n hx hb dL_law_1659 rfl (lv_at hl 0 rfl) ?_
  refine lv_iload_n hx hb dL_law_1660 rfl (lv_at hl 3 rfl) ?_
  refine lv_iconst (v := 2) hx hb dL_law_1661 (by decide) ?_
  refine lv_iadd hx hb dL_law_1662 ?_
  refine kl_ld (k := 2) hC hX hbl hi hL hW (by decide) (by decide) dL_law_1663 ?_
  have hC2 : Cx (gx D cs β) RL code 4 p s m #[Value.ref b] c := hC
  refine kd_i hW2 (kd_run hC2 hW2 hl.1 (t_md_counts h2) ⟨rfl, rfl⟩ cw_L_182 (wm_0 (gx D cs β) ν) rfl rfl rfl (Nat.le_of_ble_eq_true rfl) dL_law_1664 ⟨Nat.le_of_ble_eq_true rfl, Nat.le_of_ble_eq_true rfl⟩ ⟨Nat.le_of_succ_le hcs.1, Nat.le_trans (Nat.le_add_right slots 5) hcs.2⟩) (fun H locs hW => ?_)
  refine lv_icmp_eq (tgt := 1751) hx hb dL_law_1667 (by decide) (fun _ => ?_) (fun hc => absurd rfl hc)
  refine W.widen (k := cells + 1) (n := slots + 5) (Nat.le_succ _) (Nat.le_add_right _ _) ?_
  exact kk α μ ν rfl hR (kd_swap hW) hl
set_option maxHeartbeats 4000000 in
set_option maxRecDepth 100000 in
theorem lc_39 (hC : Cx (gx D cs α) RL code 4 p s m #[Value.ref b] c) (hX : va_X b L xs s s.heap) (hbl : b < s.heap.size) (hi : 6 * i + 6 ≤ L) (hL : L ≤ 3072) (hs : ST_council Rel) (hRel : Rel μ ν) (hcs : cells + 1 ≤ 600000 ∧ slots + 5 ≤ 7302250) (hW : wA (gx D cs α) (wx (gx D cs α) μ ++ wm (gx D cs β) ν) (fun q => s.heap.size ≤ q) s.heap H locs) (hl : lv_has ls 4 [(0, .ref b), (1, .ref (ad (gx D cs α) 0)), (2, .ref (ad (gx D cs β) 0)), (3, .int (nI (6 * i)))])
    (kk : ∀ {H : Heap} {locs : List Loc} {ls : Array Slot} (z : Nat → Nat) (μ ν : Mm), z 0 = ad (gx D cs α) 0 → Rel μ ν → wA (gx D cs α) (wx (gx D cs z) μ ++ wm (gx D cs β) ν) (fun q => s.heap.size ≤ q) s.heap H locs → lv_has ls 4 [(0, .ref b), (1, .ref (ad (gx D cs α) 0)), (2, .ref (ad (gx D cs β) 0)), (3, .int (nI (6 * i)))] → W p l e room_1 s m #[Value.ref b] below meth c H locs (cells + 1) (slots + 5) Q (F0 m 1751 ls [])) : W p l e room_1 s m #[Value.ref b] below meth c H locs cells slots Q (F0 m 1672 ls []) := by
  obtain ⟨hx, hb, hml, hown, hts, hK, hN⟩ := id hC
  refine lv_aload_n hx hb dL_law_1672 rfl (lv_at hl 1 rfl) ?_
  refine lv_aload_n hx hb dL_law_1673 rfl (lv_at hl 0 rfl) ?_
  refine lv_iload_n hx hb dL_law_1674 rfl (lv_at hl 3 rfl) ?_
  refine lv_iconst (v := 1) hx hb dL_law_1675 (by decide) ?_
  refine lv_iadd hx hb dL_law_1676 ?_
  refine kl_ld (k := 1) hC hX hbl hi hL hW (by decide) (by decide) dL_law_1677 ?_
  refine lv_aload_n hx hb dL_law_1678 rfl (lv_at hl 0 rfl) ?_
  refine lv_iload_n hx hb dL_law_1679 rfl (lv_at hl 3 rfl) ?_
  refine lv_iconst (v := 2) hx hb dL_law_1680 (by decide) ?_
  refine lv_iadd hx hb dL_law_1681 ?_
  refine kl_ld (k := 2) hC hX hbl hi hL hW (by decide) (by decide) dL_law_1682 ?_
  obtain ⟨v, h1, h2, hR⟩ := hs μ ν (xs (6 * i + 1)) (xs (6 * i + 2)) hRel
  refine kd_i hW (kd_run hC hW hl.1 (t_vs_council h1) ⟨rfl, rfl⟩ cw_L_183 (wx_0 (gx D cs α) μ) rfl rfl rfl (Nat.le_of_ble_eq_true rfl) dL_law_1683 ⟨Nat.le_of_ble_eq_true rfl, Nat.le_of_ble_eq_true rfl⟩ ⟨Nat.le_of_succ_le hcs.1, Nat.le_trans (Nat.le_add_right slots 5) hcs.2⟩) (fun H locs hW => ?_)
  have hW2 : wA (gx D cs β) (wm (gx D cs β) ν ++ wx (gx D cs α) μ) (fun q => s.heap.size ≤ q) s.heap H locs := kd_swap hW
  refine lv_aload_n hx hb dL_law_1686 rfl (lv_at hl 2 rfl) ?_
  refine lv_aload_n hx hb dL_law_1687 rfl (lv_at hl 0 rfl) ?_
  refine lv_iload_n hx hb dL_law_1688 rfl (lv_at hl 3 rfl) ?_
  refine lv_iconst (v := 1) hx hb dL_law_1689 (by decide) ?_
  refine lv_iadd hx hb dL_law_1690 ?_
  refine kl_ld (k := 1) hC hX hbl hi hL hW (by decide) (by decide) dL_law_1691 ?_
  refine lv_aload_n hx hb dL_law_1692 rfl (lv_at hl 0 rfl) ?_
  refine lv_iload_n hx hb dL_law_1693 rfl (lv_at hl 3 rfl) ?_
  refine lv_iconst (v := 2) hx hb dL_law_1694 (by decide) ?_
  refine lv_iadd hx hb dL_law_1695 ?_
  refine kl_ld (k := 2) hC hX hbl hi hL hW (by decide) (by decide) dL_law_1696 ?_
  have hC2 : Cx (gx D cs β) RL code 4 p s m #[Value.ref b] c := hC
  refine kd_i hW2 (kd_run hC2 hW2 hl.1 (t_md_council h2) ⟨rfl, rfl⟩ cw_L_186 (wm_0 (gx D cs β) ν) rfl rfl rfl (Nat.le_of_ble_eq_true rfl) dL_law_1697 ⟨Nat.le_of_ble_eq_true rfl, Nat.le_of_ble_eq_true rfl⟩ ⟨Nat.le_of_succ_le hcs.1, Nat.le_trans (Nat.le_add_right slots 5) hcs.2⟩) (fun H locs hW => ?_)
  refine lv_icmp_eq (tgt := 1751) hx hb dL_law_1700 (by decide) (fun _ => ?_) (fun hc => absurd rfl hc)
  refine W.widen (k := cells + 1) (n := slots + 5) (Nat.le_succ _) (Nat.le_add_right _ _) ?_
  exact kk α μ ν rfl hR (kd_swap hW) hl
set_option maxHeartbeats 4000000 in
set_option maxRecDepth 100000 in
theorem lc_40 (hC : Cx (gx D cs α) RL code 4 p s m #[Value.ref b] c) (hX : va_X b L xs s s.heap) (hbl : b < s.heap.size) (hi : 6 * i + 6 ≤ L) (hL : L ≤ 3072) (hs : ST_check Rel) (hRel : Rel μ ν) (hcs : cells + 1 ≤ 600000 ∧ slots + 5 ≤ 7302250) (hW : wA (gx D cs α) (wx (gx D cs α) μ ++ wm (gx D cs β) ν) (fun q => s.heap.size ≤ q) s.heap H locs) (hl : lv_has ls 4 [(0, .ref b), (1, .ref (ad (gx D cs α) 0)), (2, .ref (ad (gx D cs β) 0)), (3, .int (nI (6 * i)))])
    (kk : ∀ {H : Heap} {locs : List Loc} {ls : Array Slot} (z : Nat → Nat) (μ ν : Mm), z 0 = ad (gx D cs α) 0 → Rel μ ν → wA (gx D cs α) (wx (gx D cs z) μ ++ wm (gx D cs β) ν) (fun q => s.heap.size ≤ q) s.heap H locs → lv_has ls 4 [(0, .ref b), (1, .ref (ad (gx D cs α) 0)), (2, .ref (ad (gx D cs β) 0)), (3, .int (nI (6 * i)))] → W p l e room_1 s m #[Value.ref b] below meth c H locs (cells + 1) (slots + 5) Q (F0 m 1751 ls [])) : W p l e room_1 s m #[Value.ref b] below meth c H locs cells slots Q (F0 m 1705 ls []) := by
  obtain ⟨hx, hb, hml, hown, hts, hK, hN⟩ := id hC
  refine lv_aload_n hx hb dL_law_1705 rfl (lv_at hl 1 rfl) ?_
  refine lv_aload_n hx hb dL_law_1706 rfl (lv_at hl 0 rfl) ?_
  refine lv_iload_n hx hb dL_law_1707 rfl (lv_at hl 3 rfl) ?_
  refine lv_iconst (v := 1) hx hb dL_law_1708 (by decide) ?_
  refine lv_iadd hx hb dL_law_1709 ?_
  refine kl_ld (k := 1) hC hX hbl hi hL hW (by decide) (by decide) dL_law_1710 ?_
  obtain ⟨v, u, w, h1, h2, hR⟩ := hs μ ν (xs (6 * i + 1)) hRel
  refine kd_i hW (kd_run hC hW hl.1 (t_vs_check h1) ⟨rfl, rfl⟩ cw_L_187 (wx_0 (gx D cs α) μ) rfl rfl rfl (Nat.le_of_ble_eq_true rfl) dL_law_1711 ⟨Nat.le_of_ble_eq_true rfl, Nat.le_of_ble_eq_true rfl⟩ ⟨Nat.le_of_succ_le hcs.1, Nat.le_trans (Nat.le_add_right slots 5) hcs.2⟩) (fun H locs hW => ?_)
  have hW2 : wA (gx D cs β) (wm (gx D cs β) ν ++ wx (gx D cs α) u) (fun q => s.heap.size ≤ q) s.heap H locs := kd_swap hW
  refine lv_aload_n hx hb dL_law_1714 rfl (lv_at hl 2 rfl) ?_
  refine lv_aload_n hx hb dL_law_1715 rfl (lv_at hl 0 rfl) ?_
  refine lv_iload_n hx hb dL_law_1716 rfl (lv_at hl 3 rfl) ?_
  refine lv_iconst (v := 1) hx hb dL_law_1717 (by decide) ?_
  refine lv_iadd hx hb dL_law_1718 ?_
  refine kl_ld (k := 1) hC hX hbl hi hL hW (by decide) (by decide) dL_law_1719 ?_
  have hC2 : Cx (gx D cs β) RL code 4 p s m #[Value.ref b] c := hC
  refine kd_i hW2 (kd_run hC2 hW2 hl.1 (t_md_check h2) ⟨rfl, rfl⟩ cw_L_190 (wm_0 (gx D cs β) ν) rfl rfl rfl (Nat.le_of_ble_eq_true rfl) dL_law_1720 ⟨Nat.le_of_ble_eq_true rfl, Nat.le_of_ble_eq_true rfl⟩ ⟨Nat.le_of_succ_le hcs.1, Nat.le_trans (Nat.le_add_right slots 5) hcs.2⟩) (fun H locs hW => ?_)
  refine lv_icmp_eq (tgt := 1751) hx hb dL_law_1723 (by decide) (fun _ => ?_) (fun hc => absurd rfl hc)
  refine W.widen (k := cells + 1) (n := slots + 5) (Nat.le_succ _) (Nat.le_add_right _ _) ?_
  exact kk α u w rfl hR (kd_swap hW) hl
set_option maxHeartbeats 4000000 in
set_option maxRecDepth 100000 in
theorem lc_41 (hC : Cx (gx D cs α) RL code 4 p s m #[Value.ref b] c) (hX : va_X b L xs s s.heap) (hbl : b < s.heap.size) (hi : 6 * i + 6 ≤ L) (hL : L ≤ 3072) (hs : ST_count Rel) (hRel : Rel μ ν) (hcs : cells + 1 ≤ 600000 ∧ slots + 5 ≤ 7302250) (hW : wA (gx D cs α) (wx (gx D cs α) μ ++ wm (gx D cs β) ν) (fun q => s.heap.size ≤ q) s.heap H locs) (hl : lv_has ls 4 [(0, .ref b), (1, .ref (ad (gx D cs α) 0)), (2, .ref (ad (gx D cs β) 0)), (3, .int (nI (6 * i)))])
    (kk : ∀ {H : Heap} {locs : List Loc} {ls : Array Slot} (z : Nat → Nat) (μ ν : Mm), z 0 = ad (gx D cs α) 0 → Rel μ ν → wA (gx D cs α) (wx (gx D cs z) μ ++ wm (gx D cs β) ν) (fun q => s.heap.size ≤ q) s.heap H locs → lv_has ls 4 [(0, .ref b), (1, .ref (ad (gx D cs α) 0)), (2, .ref (ad (gx D cs β) 0)), (3, .int (nI (6 * i)))] → W p l e room_1 s m #[Value.ref b] below meth c H locs (cells + 1) (slots + 5) Q (F0 m 1751 ls [])) : W p l e room_1 s m #[Value.ref b] below meth c H locs cells slots Q (F0 m 1728 ls []) := by
  obtain ⟨hx, hb, hml, hown, hts, hK, hN⟩ := id hC
  refine lv_aload_n hx hb dL_law_1728 rfl (lv_at hl 1 rfl) ?_
  refine lv_aload_n hx hb dL_law_1729 rfl (lv_at hl 0 rfl) ?_
  refine lv_iload_n hx hb dL_law_1730 rfl (lv_at hl 3 rfl) ?_
  refine lv_iconst (v := 1) hx hb dL_law_1731 (by decide) ?_
  refine lv_iadd hx hb dL_law_1732 ?_
  refine kl_ld (k := 1) hC hX hbl hi hL hW (by decide) (by decide) dL_law_1733 ?_
  obtain ⟨v, h1, h2, hR⟩ := hs μ ν (xs (6 * i + 1)) hRel
  refine kd_i hW (kd_run hC hW hl.1 (t_vs_count h1) ⟨rfl, rfl⟩ cw_L_191 (wx_0 (gx D cs α) μ) rfl rfl rfl (Nat.le_of_ble_eq_true rfl) dL_law_1734 ⟨Nat.le_of_ble_eq_true rfl, Nat.le_of_ble_eq_true rfl⟩ ⟨Nat.le_of_succ_le hcs.1, Nat.le_trans (Nat.le_add_right slots 5) hcs.2⟩) (fun H locs hW => ?_)
  have hW2 : wA (gx D cs β) (wm (gx D cs β) ν ++ wx (gx D cs α) μ) (fun q => s.heap.size ≤ q) s.heap H locs := kd_swap hW
  refine lv_aload_n hx hb dL_law_1737 rfl (lv_at hl 2 rfl) ?_
  refine lv_aload_n hx hb dL_law_1738 rfl (lv_at hl 0 rfl) ?_
  refine lv_iload_n hx hb dL_law_1739 rfl (lv_at hl 3 rfl) ?_
  refine lv_iconst (v := 1) hx hb dL_law_1740 (by decide) ?_
  refine lv_iadd hx hb dL_law_1741 ?_
  refine kl_ld (k := 1) hC hX hbl hi hL hW (by decide) (by decide) dL_law_1742 ?_
  have hC2 : Cx (gx D cs β) RL code 4 p s m #[Value.ref b] c := hC
  refine kd_i hW2 (kd_run hC2 hW2 hl.1 (t_md_count h2) ⟨rfl, rfl⟩ cw_L_194 (wm_0 (gx D cs β) ν) rfl rfl rfl (Nat.le_of_ble_eq_true rfl) dL_law_1743 ⟨Nat.le_of_ble_eq_true rfl, Nat.le_of_ble_eq_true rfl⟩ ⟨Nat.le_of_succ_le hcs.1, Nat.le_trans (Nat.le_add_right slots 5) hcs.2⟩) (fun H locs hW => ?_)
  refine lv_icmp_eq (tgt := 1751) hx hb dL_law_1746 (by decide) (fun _ => ?_) (fun hc => absurd rfl hc)
  refine W.widen (k := cells + 1) (n := slots + 5) (Nat.le_succ _) (Nat.le_add_right _ _) ?_
  exact kk α μ ν rfl hR (kd_swap hW) hl
end
