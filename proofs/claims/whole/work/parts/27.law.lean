/-! the law: its loop -/
abbrev mL_law : Mt := (yL_law, cL_law, 7, some .boolean, [], room_1)
theorem w_L_89 : SLW RL 89 mL_declareClass 4 := ⟨⟨⟨_, _, rfl⟩, gw (i := 548) (by decide +kernel) (by decide +kernel), gw (i := 110) (by decide +kernel) (by decide +kernel), by decide +kernel, by decide +kernel⟩, gw (i := 546) (by decide +kernel) (by decide +kernel), gw (i := 547) (by decide +kernel) (by decide +kernel)⟩
theorem cl_X12_declareClass : CL mX12_declareClass 2 := ⟨rfl, gw (i := 1443) (by decide +kernel) (by decide +kernel), gw (i := 122) (by decide +kernel) (by decide +kernel), by decide +kernel, by decide +kernel⟩
theorem v_L_94 : VL RL 94 mX12_declareClass 2 := ⟨cl_X12_declareClass, gw (i := 1440) (by decide +kernel) (by decide +kernel), gw (i := 1441) (by decide +kernel) (by decide +kernel), gw (i := 1442) (by decide +kernel) (by decide +kernel)⟩
theorem cl_X12_thrown : CL mX12_thrown 0 := ⟨rfl, gw (i := 1379) (by decide +kernel) (by decide +kernel), gw (i := 122) (by decide +kernel) (by decide +kernel), by decide +kernel, by decide +kernel⟩
theorem v_L_95 : VL RL 95 mX12_thrown 0 := ⟨cl_X12_thrown, gw (i := 1376) (by decide +kernel) (by decide +kernel), gw (i := 1377) (by decide +kernel) (by decide +kernel), gw (i := 1378) (by decide +kernel) (by decide +kernel)⟩
theorem w_L_98 : SLW RL 98 mL_declareField 4 := ⟨⟨⟨_, _, rfl⟩, gw (i := 650) (by decide +kernel) (by decide +kernel), gw (i := 110) (by decide +kernel) (by decide +kernel), by decide +kernel, by decide +kernel⟩, gw (i := 648) (by decide +kernel) (by decide +kernel), gw (i := 649) (by decide +kernel) (by decide +kernel)⟩
theorem cl_X12_declareField : CL mX12_declareField 2 := ⟨rfl, gw (i := 1447) (by decide +kernel) (by decide +kernel), gw (i := 122) (by decide +kernel) (by decide +kernel), by decide +kernel, by decide +kernel⟩
theorem v_L_101 : VL RL 101 mX12_declareField 2 := ⟨cl_X12_declareField, gw (i := 1444) (by decide +kernel) (by decide +kernel), gw (i := 1445) (by decide +kernel) (by decide +kernel), gw (i := 1446) (by decide +kernel) (by decide +kernel)⟩
theorem w_L_102 : SLW RL 102 mL_parameter 3 := ⟨⟨⟨_, _, rfl⟩, gw (i := 667) (by decide +kernel) (by decide +kernel), gw (i := 110) (by decide +kernel) (by decide +kernel), by decide +kernel, by decide +kernel⟩, gw (i := 665) (by decide +kernel) (by decide +kernel), gw (i := 666) (by decide +kernel) (by decide +kernel)⟩
theorem cl_X12_parameter : CL mX12_parameter 1 := ⟨rfl, gw (i := 1451) (by decide +kernel) (by decide +kernel), gw (i := 122) (by decide +kernel) (by decide +kernel), by decide +kernel, by decide +kernel⟩
theorem v_L_105 : VL RL 105 mX12_parameter 1 := ⟨cl_X12_parameter, gw (i := 1448) (by decide +kernel) (by decide +kernel), gw (i := 1449) (by decide +kernel) (by decide +kernel), gw (i := 1450) (by decide +kernel) (by decide +kernel)⟩
theorem w_L_106 : SLW RL 106 mL_declareMethod 5 := ⟨⟨⟨_, _, rfl⟩, gw (i := 684) (by decide +kernel) (by decide +kernel), gw (i := 110) (by decide +kernel) (by decide +kernel), by decide +kernel, by decide +kernel⟩, gw (i := 682) (by decide +kernel) (by decide +kernel), gw (i := 683) (by decide +kernel) (by decide +kernel)⟩
theorem cl_X12_declareMethod : CL mX12_declareMethod 3 := ⟨rfl, gw (i := 1462) (by decide +kernel) (by decide +kernel), gw (i := 122) (by decide +kernel) (by decide +kernel), by decide +kernel, by decide +kernel⟩
theorem v_L_109 : VL RL 109 mX12_declareMethod 3 := ⟨cl_X12_declareMethod, gw (i := 1459) (by decide +kernel) (by decide +kernel), gw (i := 1460) (by decide +kernel) (by decide +kernel), gw (i := 1461) (by decide +kernel) (by decide +kernel)⟩
theorem w_L_110 : SLW RL 110 mL_isAssignable 4 := ⟨⟨⟨_, _, rfl⟩, gw (i := 713) (by decide +kernel) (by decide +kernel), gw (i := 110) (by decide +kernel) (by decide +kernel), by decide +kernel, by decide +kernel⟩, gw (i := 711) (by decide +kernel) (by decide +kernel), gw (i := 712) (by decide +kernel) (by decide +kernel)⟩
theorem cl_X12_isAssignable : CL mX12_isAssignable 2 := ⟨rfl, gw (i := 1383) (by decide +kernel) (by decide +kernel), gw (i := 122) (by decide +kernel) (by decide +kernel), by decide +kernel, by decide +kernel⟩
theorem v_L_112 : VL RL 112 mX12_isAssignable 2 := ⟨cl_X12_isAssignable, gw (i := 1380) (by decide +kernel) (by decide +kernel), gw (i := 1381) (by decide +kernel) (by decide +kernel), gw (i := 1382) (by decide +kernel) (by decide +kernel)⟩
theorem w_L_113 : SLW RL 113 mL_join 4 := ⟨⟨⟨_, _, rfl⟩, gw (i := 748) (by decide +kernel) (by decide +kernel), gw (i := 110) (by decide +kernel) (by decide +kernel), by decide +kernel, by decide +kernel⟩, gw (i := 746) (by decide +kernel) (by decide +kernel), gw (i := 747) (by decide +kernel) (by decide +kernel)⟩
theorem cl_X12_join : CL mX12_join 2 := ⟨rfl, gw (i := 1431) (by decide +kernel) (by decide +kernel), gw (i := 122) (by decide +kernel) (by decide +kernel), by decide +kernel, by decide +kernel⟩
theorem v_L_115 : VL RL 115 mX12_join 2 := ⟨cl_X12_join, gw (i := 1428) (by decide +kernel) (by decide +kernel), gw (i := 1429) (by decide +kernel) (by decide +kernel), gw (i := 1430) (by decide +kernel) (by decide +kernel)⟩
theorem w_L_116 : SLW RL 116 mL_begin 5 := ⟨⟨⟨_, _, rfl⟩, gw (i := 768) (by decide +kernel) (by decide +kernel), gw (i := 110) (by decide +kernel) (by decide +kernel), by decide +kernel, by decide +kernel⟩, gw (i := 766) (by decide +kernel) (by decide +kernel), gw (i := 767) (by decide +kernel) (by decide +kernel)⟩
theorem cl_X12_begin : CL mX12_begin 3 := ⟨rfl, gw (i := 1466) (by decide +kernel) (by decide +kernel), gw (i := 122) (by decide +kernel) (by decide +kernel), by decide +kernel, by decide +kernel⟩
theorem v_L_118 : VL RL 118 mX12_begin 3 := ⟨cl_X12_begin, gw (i := 1463) (by decide +kernel) (by decide +kernel), gw (i := 1464) (by decide +kernel) (by decide +kernel), gw (i := 1465) (by decide +kernel) (by decide +kernel)⟩
theorem w_L_119 : SLW RL 119 mL_emit 4 := ⟨⟨⟨_, _, rfl⟩, gw (i := 809) (by decide +kernel) (by decide +kernel), gw (i := 110) (by decide +kernel) (by decide +kernel), by decide +kernel, by decide +kernel⟩, gw (i := 807) (by decide +kernel) (by decide +kernel), gw (i := 808) (by decide +kernel) (by decide +kernel)⟩
theorem cl_X12_emit : CL mX12_emit 2 := ⟨rfl, gw (i := 1478) (by decide +kernel) (by decide +kernel), gw (i := 122) (by decide +kernel) (by decide +kernel), by decide +kernel, by decide +kernel⟩
theorem v_L_121 : VL RL 121 mX12_emit 2 := ⟨cl_X12_emit, gw (i := 1475) (by decide +kernel) (by decide +kernel), gw (i := 1476) (by decide +kernel) (by decide +kernel), gw (i := 1477) (by decide +kernel) (by decide +kernel)⟩
theorem w_L_122 : SLW RL 122 mL_addHandler 6 := ⟨⟨⟨_, _, rfl⟩, gw (i := 822) (by decide +kernel) (by decide +kernel), gw (i := 110) (by decide +kernel) (by decide +kernel), by decide +kernel, by decide +kernel⟩, gw (i := 820) (by decide +kernel) (by decide +kernel), gw (i := 821) (by decide +kernel) (by decide +kernel)⟩
theorem cl_X12_addHandler : CL mX12_addHandler 4 := ⟨rfl, gw (i := 1482) (by decide +kernel) (by decide +kernel), gw (i := 122) (by decide +kernel) (by decide +kernel), by decide +kernel, by decide +kernel⟩
theorem v_L_125 : VL RL 125 mX12_addHandler 4 := ⟨cl_X12_addHandler, gw (i := 1479) (by decide +kernel) (by decide +kernel), gw (i := 1480) (by decide +kernel) (by decide +kernel), gw (i := 1481) (by decide +kernel) (by decide +kernel)⟩
theorem cl_X11_instructionCount : CL mX11_instructionCount 0 := ⟨rfl, gw (i := 523) (by decide +kernel) (by decide +kernel), gw (i := 111) (by decide +kernel) (by decide +kernel), by decide +kernel, by decide +kernel⟩
theorem v_L_126 : VL RL 126 mX11_instructionCount 0 := ⟨cl_X11_instructionCount, gw (i := 520) (by decide +kernel) (by decide +kernel), gw (i := 521) (by decide +kernel) (by decide +kernel), gw (i := 522) (by decide +kernel) (by decide +kernel)⟩
theorem cl_X12_instructionCount : CL mX12_instructionCount 0 := ⟨rfl, gw (i := 1486) (by decide +kernel) (by decide +kernel), gw (i := 122) (by decide +kernel) (by decide +kernel), by decide +kernel, by decide +kernel⟩
theorem v_L_129 : VL RL 129 mX12_instructionCount 0 := ⟨cl_X12_instructionCount, gw (i := 1483) (by decide +kernel) (by decide +kernel), gw (i := 1484) (by decide +kernel) (by decide +kernel), gw (i := 1485) (by decide +kernel) (by decide +kernel)⟩
theorem w_L_130 : SLW RL 130 mL_pushLocal 3 := ⟨⟨⟨_, _, rfl⟩, gw (i := 835) (by decide +kernel) (by decide +kernel), gw (i := 110) (by decide +kernel) (by decide +kernel), by decide +kernel, by decide +kernel⟩, gw (i := 833) (by decide +kernel) (by decide +kernel), gw (i := 834) (by decide +kernel) (by decide +kernel)⟩
theorem cl_X12_pushLocal : CL mX12_pushLocal 1 := ⟨rfl, gw (i := 1490) (by decide +kernel) (by decide +kernel), gw (i := 122) (by decide +kernel) (by decide +kernel), by decide +kernel, by decide +kernel⟩
theorem v_L_132 : VL RL 132 mX12_pushLocal 1 := ⟨cl_X12_pushLocal, gw (i := 1487) (by decide +kernel) (by decide +kernel), gw (i := 1488) (by decide +kernel) (by decide +kernel), gw (i := 1489) (by decide +kernel) (by decide +kernel)⟩
theorem w_L_133 : SLW RL 133 mL_pushStack 3 := ⟨⟨⟨_, _, rfl⟩, gw (i := 843) (by decide +kernel) (by decide +kernel), gw (i := 110) (by decide +kernel) (by decide +kernel), by decide +kernel, by decide +kernel⟩, gw (i := 841) (by decide +kernel) (by decide +kernel), gw (i := 842) (by decide +kernel) (by decide +kernel)⟩
theorem cl_X12_pushStack : CL mX12_pushStack 1 := ⟨rfl, gw (i := 1494) (by decide +kernel) (by decide +kernel), gw (i := 122) (by decide +kernel) (by decide +kernel), by decide +kernel, by decide +kernel⟩
theorem v_L_135 : VL RL 135 mX12_pushStack 1 := ⟨cl_X12_pushStack, gw (i := 1491) (by decide +kernel) (by decide +kernel), gw (i := 1492) (by decide +kernel) (by decide +kernel), gw (i := 1493) (by decide +kernel) (by decide +kernel)⟩
theorem w_L_136 : SLW RL 136 mL_declareFrame 4 := ⟨⟨⟨_, _, rfl⟩, gw (i := 851) (by decide +kernel) (by decide +kernel), gw (i := 110) (by decide +kernel) (by decide +kernel), by decide +kernel, by decide +kernel⟩, gw (i := 849) (by decide +kernel) (by decide +kernel), gw (i := 850) (by decide +kernel) (by decide +kernel)⟩
theorem cl_X12_declareFrame : CL mX12_declareFrame 2 := ⟨rfl, gw (i := 1498) (by decide +kernel) (by decide +kernel), gw (i := 122) (by decide +kernel) (by decide +kernel), by decide +kernel, by decide +kernel⟩
theorem v_L_138 : VL RL 138 mX12_declareFrame 2 := ⟨cl_X12_declareFrame, gw (i := 1495) (by decide +kernel) (by decide +kernel), gw (i := 1496) (by decide +kernel) (by decide +kernel), gw (i := 1497) (by decide +kernel) (by decide +kernel)⟩
theorem w_L_139 : SLW RL 139 mL_adoptFrames 2 := ⟨⟨⟨_, _, rfl⟩, gw (i := 883) (by decide +kernel) (by decide +kernel), gw (i := 110) (by decide +kernel) (by decide +kernel), by decide +kernel, by decide +kernel⟩, gw (i := 881) (by decide +kernel) (by decide +kernel), gw (i := 882) (by decide +kernel) (by decide +kernel)⟩
theorem cl_X12_adoptFrames : CL mX12_adoptFrames 0 := ⟨rfl, gw (i := 1510) (by decide +kernel) (by decide +kernel), gw (i := 122) (by decide +kernel) (by decide +kernel), by decide +kernel, by decide +kernel⟩
theorem v_L_142 : VL RL 142 mX12_adoptFrames 0 := ⟨cl_X12_adoptFrames, gw (i := 1507) (by decide +kernel) (by decide +kernel), gw (i := 1508) (by decide +kernel) (by decide +kernel), gw (i := 1509) (by decide +kernel) (by decide +kernel)⟩
theorem w_L_143 : SLW RL 143 mL_infer 2 := ⟨⟨⟨_, _, rfl⟩, gw (i := 917) (by decide +kernel) (by decide +kernel), gw (i := 110) (by decide +kernel) (by decide +kernel), by decide +kernel, by decide +kernel⟩, gw (i := 915) (by decide +kernel) (by decide +kernel), gw (i := 916) (by decide +kernel) (by decide +kernel)⟩
theorem cl_X12_infer : CL mX12_infer 0 := ⟨rfl, gw (i := 1524) (by decide +kernel) (by decide +kernel), gw (i := 122) (by decide +kernel) (by decide +kernel), by decide +kernel, by decide +kernel⟩
theorem v_L_145 : VL RL 145 mX12_infer 0 := ⟨cl_X12_infer, gw (i := 1521) (by decide +kernel) (by decide +kernel), gw (i := 1522) (by decide +kernel) (by decide +kernel), gw (i := 1523) (by decide +kernel) (by decide +kernel)⟩
theorem w_L_146 : SLW RL 146 mL_check 2 := ⟨⟨⟨_, _, rfl⟩, gw (i := 1151) (by decide +kernel) (by decide +kernel), gw (i := 110) (by decide +kernel) (by decide +kernel), by decide +kernel, by decide +kernel⟩, gw (i := 1149) (by decide +kernel) (by decide +kernel), gw (i := 1150) (by decide +kernel) (by decide +kernel)⟩
theorem cl_X12_check : CL mX12_check 0 := ⟨rfl, gw (i := 1703) (by decide +kernel) (by decide +kernel), gw (i := 122) (by decide +kernel) (by decide +kernel), by decide +kernel, by decide +kernel⟩
theorem v_L_148 : VL RL 148 mX12_check 0 := ⟨cl_X12_check, gw (i := 1700) (by decide +kernel) (by decide +kernel), gw (i := 1701) (by decide +kernel) (by decide +kernel), gw (i := 1702) (by decide +kernel) (by decide +kernel)⟩
theorem cl_X11_errorPosition : CL mX11_errorPosition 0 := ⟨rfl, gw (i := 527) (by decide +kernel) (by decide +kernel), gw (i := 111) (by decide +kernel) (by decide +kernel), by decide +kernel, by decide +kernel⟩
theorem v_L_149 : VL RL 149 mX11_errorPosition 0 := ⟨cl_X11_errorPosition, gw (i := 524) (by decide +kernel) (by decide +kernel), gw (i := 525) (by decide +kernel) (by decide +kernel), gw (i := 526) (by decide +kernel) (by decide +kernel)⟩
theorem cl_X12_errorPosition : CL mX12_errorPosition 0 := ⟨rfl, gw (i := 1711) (by decide +kernel) (by decide +kernel), gw (i := 122) (by decide +kernel) (by decide +kernel), by decide +kernel, by decide +kernel⟩
theorem v_L_152 : VL RL 152 mX12_errorPosition 0 := ⟨cl_X12_errorPosition, gw (i := 1708) (by decide +kernel) (by decide +kernel), gw (i := 1709) (by decide +kernel) (by decide +kernel), gw (i := 1710) (by decide +kernel) (by decide +kernel)⟩
theorem cl_X11_visits : CL mX11_visits 0 := ⟨rfl, gw (i := 531) (by decide +kernel) (by decide +kernel), gw (i := 111) (by decide +kernel) (by decide +kernel), by decide +kernel, by decide +kernel⟩
theorem v_L_153 : VL RL 153 mX11_visits 0 := ⟨cl_X11_visits, gw (i := 528) (by decide +kernel) (by decide +kernel), gw (i := 529) (by decide +kernel) (by decide +kernel), gw (i := 530) (by decide +kernel) (by decide +kernel)⟩
theorem cl_X12_visits : CL mX12_visits 0 := ⟨rfl, gw (i := 1715) (by decide +kernel) (by decide +kernel), gw (i := 122) (by decide +kernel) (by decide +kernel), by decide +kernel, by decide +kernel⟩
theorem v_L_156 : VL RL 156 mX12_visits 0 := ⟨cl_X12_visits, gw (i := 1712) (by decide +kernel) (by decide +kernel), gw (i := 1713) (by decide +kernel) (by decide +kernel), gw (i := 1714) (by decide +kernel) (by decide +kernel)⟩
theorem w_L_157 : SLW RL 157 mL_hasFrame 3 := ⟨⟨⟨_, _, rfl⟩, gw (i := 1177) (by decide +kernel) (by decide +kernel), gw (i := 110) (by decide +kernel) (by decide +kernel), by decide +kernel, by decide +kernel⟩, gw (i := 1175) (by decide +kernel) (by decide +kernel), gw (i := 1176) (by decide +kernel) (by decide +kernel)⟩
theorem cl_X12_hasFrame : CL mX12_hasFrame 1 := ⟨rfl, gw (i := 1719) (by decide +kernel) (by decide +kernel), gw (i := 122) (by decide +kernel) (by decide +kernel), by decide +kernel, by decide +kernel⟩
theorem v_L_159 : VL RL 159 mX12_hasFrame 1 := ⟨cl_X12_hasFrame, gw (i := 1716) (by decide +kernel) (by decide +kernel), gw (i := 1717) (by decide +kernel) (by decide +kernel), gw (i := 1718) (by decide +kernel) (by decide +kernel)⟩
theorem w_L_160 : SLW RL 160 mL_stackHeight 3 := ⟨⟨⟨_, _, rfl⟩, gw (i := 1188) (by decide +kernel) (by decide +kernel), gw (i := 110) (by decide +kernel) (by decide +kernel), by decide +kernel, by decide +kernel⟩, gw (i := 1186) (by decide +kernel) (by decide +kernel), gw (i := 1187) (by decide +kernel) (by decide +kernel)⟩
theorem cl_X12_stackHeight : CL mX12_stackHeight 1 := ⟨rfl, gw (i := 1727) (by decide +kernel) (by decide +kernel), gw (i := 122) (by decide +kernel) (by decide +kernel), by decide +kernel, by decide +kernel⟩
theorem v_L_162 : VL RL 162 mX12_stackHeight 1 := ⟨cl_X12_stackHeight, gw (i := 1724) (by decide +kernel) (by decide +kernel), gw (i := 1725) (by decide +kernel) (by decide +kernel), gw (i := 1726) (by decide +kernel) (by decide +kernel)⟩
theorem w_L_163 : SLW RL 163 mL_stackSlot 4 := ⟨⟨⟨_, _, rfl⟩, gw (i := 1200) (by decide +kernel) (by decide +kernel), gw (i := 110) (by decide +kernel) (by decide +kernel), by decide +kernel, by decide +kernel⟩, gw (i := 1198) (by decide +kernel) (by decide +kernel), gw (i := 1199) (by decide +kernel) (by decide +kernel)⟩
theorem cl_X12_stackSlot : CL mX12_stackSlot 2 := ⟨rfl, gw (i := 1735) (by decide +kernel) (by decide +kernel), gw (i := 122) (by decide +kernel) (by decide +kernel), by decide +kernel, by decide +kernel⟩
theorem v_L_165 : VL RL 165 mX12_stackSlot 2 := ⟨cl_X12_stackSlot, gw (i := 1732) (by decide +kernel) (by decide +kernel), gw (i := 1733) (by decide +kernel) (by decide +kernel), gw (i := 1734) (by decide +kernel) (by decide +kernel)⟩
theorem w_L_166 : SLW RL 166 mL_localSlot 4 := ⟨⟨⟨_, _, rfl⟩, gw (i := 1224) (by decide +kernel) (by decide +kernel), gw (i := 110) (by decide +kernel) (by decide +kernel), by decide +kernel, by decide +kernel⟩, gw (i := 1222) (by decide +kernel) (by decide +kernel), gw (i := 1223) (by decide +kernel) (by decide +kernel)⟩
theorem cl_X12_localSlot : CL mX12_localSlot 2 := ⟨rfl, gw (i := 1739) (by decide +kernel) (by decide +kernel), gw (i := 122) (by decide +kernel) (by decide +kernel), by decide +kernel, by decide +kernel⟩
theorem v_L_168 : VL RL 168 mX12_localSlot 2 := ⟨cl_X12_localSlot, gw (i := 1736) (by decide +kernel) (by decide +kernel), gw (i := 1737) (by decide +kernel) (by decide +kernel), gw (i := 1738) (by decide +kernel) (by decide +kernel)⟩
theorem w_L_169 : SLW RL 169 mL_isMarked 3 := ⟨⟨⟨_, _, rfl⟩, gw (i := 1232) (by decide +kernel) (by decide +kernel), gw (i := 110) (by decide +kernel) (by decide +kernel), by decide +kernel, by decide +kernel⟩, gw (i := 1230) (by decide +kernel) (by decide +kernel), gw (i := 1231) (by decide +kernel) (by decide +kernel)⟩
theorem cl_X12_isMarked : CL mX12_isMarked 1 := ⟨rfl, gw (i := 1743) (by decide +kernel) (by decide +kernel), gw (i := 122) (by decide +kernel) (by decide +kernel), by decide +kernel, by decide +kernel⟩
theorem v_L_171 : VL RL 171 mX12_isMarked 1 := ⟨cl_X12_isMarked, gw (i := 1740) (by decide +kernel) (by decide +kernel), gw (i := 1741) (by decide +kernel) (by decide +kernel), gw (i := 1742) (by decide +kernel) (by decide +kernel)⟩
theorem cl_X11_digest : CL mX11_digest 0 := ⟨rfl, gw (i := 535) (by decide +kernel) (by decide +kernel), gw (i := 111) (by decide +kernel) (by decide +kernel), by decide +kernel, by decide +kernel⟩
theorem v_L_172 : VL RL 172 mX11_digest 0 := ⟨cl_X11_digest, gw (i := 532) (by decide +kernel) (by decide +kernel), gw (i := 533) (by decide +kernel) (by decide +kernel), gw (i := 534) (by decide +kernel) (by decide +kernel)⟩
theorem cl_X12_digest : CL mX12_digest 0 := ⟨rfl, gw (i := 1747) (by decide +kernel) (by decide +kernel), gw (i := 122) (by decide +kernel) (by decide +kernel), by decide +kernel, by decide +kernel⟩
theorem v_L_176 : VL RL 176 mX12_digest 0 := ⟨cl_X12_digest, gw (i := 1744) (by decide +kernel) (by decide +kernel), gw (i := 1745) (by decide +kernel) (by decide +kernel), gw (i := 1746) (by decide +kernel) (by decide +kernel)⟩
def jb_L_law_148 (fu : Nat) (E : Ev) (xs : Nat → Int32) (L a1 a2 a3 : Nat) (rc : Int32 → St → Option (Int32 × St)) (x4 : Int32) (S : St) : Option (Int32 × St) :=
  if inb (x4 + 1) L = true then
    (
    if inb (x4 + 2) L = true then
      (
      if (xs (x4 + 2).toNatClampNeg) = 0 then (
        (sp_L_declareClass fu E S a1 (xs (x4 + 1).toNatClampNeg) 0 a3).bind fun u6 =>
        if inb (x4 + 1) L = true then
          (
          if inb (x4 + 2) L = true then
            (
            if (xs (x4 + 2).toNatClampNeg) = 0 then (
              (sp_X12_declareClass fu E u6.2 a2 (xs (x4 + 1).toNatClampNeg) 0).bind fun u9 =>
              (sp_X12_thrown fu E u9.2 a2).bind fun u10 =>
              if u10.1 = u6.1 then (
                if u6.1 = 0 then (
                  if (lg_cmp (u10.2.2.2.2 a3 (0 : Int32).toNatClampNeg) u9.1.toInt64) = 0 then (
                    rc (x4 + 5) u10.2
                  ) else (
                    some (0, u10.2)
                  )
                ) else (
                  rc (x4 + 5) u10.2
                )
              ) else (
                some (0, u10.2)
              )
            ) else (
              (sp_X12_declareClass fu E u6.2 a2 (xs (x4 + 1).toNatClampNeg) 1).bind fun u14 =>
              (sp_X12_thrown fu E u14.2 a2).bind fun u15 =>
              if u15.1 = u6.1 then (
                if u6.1 = 0 then (
                  if (lg_cmp (u15.2.2.2.2 a3 (0 : Int32).toNatClampNeg) u14.1.toInt64) = 0 then (
                    rc (x4 + 5) u15.2
                  ) else (
                    some (0, u15.2)
                  )
                ) else (
                  rc (x4 + 5) u15.2
                )
              ) else (
                some (0, u15.2)
              )
            )
            )
          else none
          )
        else none
      ) else (
        (sp_L_declareClass fu E S a1 (xs (x4 + 1).toNatClampNeg) 1 a3).bind fun u20 =>
        if inb (x4 + 1) L = true then
          (
          if inb (x4 + 2) L = true then
            (
            if (xs (x4 + 2).toNatClampNeg) = 0 then (
              (sp_X12_declareClass fu E u20.2 a2 (xs (x4 + 1).toNatClampNeg) 0).bind fun u23 =>
              (sp_X12_thrown fu E u23.2 a2).bind fun u24 =>
              if u24.1 = u20.1 then (
                if u20.1 = 0 then (
                  if (lg_cmp (u24.2.2.2.2 a3 (0 : Int32).toNatClampNeg) u23.1.toInt64) = 0 then (
                    rc (x4 + 5) u24.2
                  ) else (
                    some (0, u24.2)
                  )
                ) else (
                  rc (x4 + 5) u24.2
                )
              ) else (
                some (0, u24.2)
              )
            ) else (
              (sp_X12_declareClass fu E u20.2 a2 (xs (x4 + 1).toNatClampNeg) 1).bind fun u28 =>
              (sp_X12_thrown fu E u28.2 a2).bind fun u29 =>
              if u29.1 = u20.1 then (
                if u20.1 = 0 then (
                  if (lg_cmp (u29.2.2.2.2 a3 (0 : Int32).toNatClampNeg) u28.1.toInt64) = 0 then (
                    rc (x4 + 5) u29.2
                  ) else (
                    some (0, u29.2)
                  )
                ) else (
                  rc (x4 + 5) u29.2
                )
              ) else (
                some (0, u29.2)
              )
            )
            )
          else none
          )
        else none
      )
      )
    else none
    )
  else none
set_option maxRecDepth 100000 in
theorem kj_L_law_148 {X : Cx} {E : Ev} {t : Int32 × St} {b L a1 a2 a3 : Nat} {xs : Nat → Int32} {rc : Int32 → St → Option (Int32 × St)} (hQ : EndL mL_law X) (ht : t.1 = 1) (hE : WE E) (hs : Scr X b L xs) (ha1 : E.1 a1 = some (0, 9, 0)) (ha2 : E.1 a2 = some (0, 10, 0)) (ha3 : E.1 a3 = some (1, 2, 1)) (fu : Nat) (k n F G : Nat) (hk : k + 8 + F ≤ 601024) (hn : n + 48 + G ≤ 7293034) (hrc : ∀ (x4 : Int32) (S : St) (k1 n1 : Nat), k1 + F ≤ 601024 → n1 + G ≤ 7293034 → K mL_law X E 23 [(0, .ref b), (1, .ref a1), (2, .ref a2), (3, .ref a3), (4, .int x4)] [] S k1 n1 (rc x4 S) t) (x4 : Int32) (S : St) : K mL_law X E 148 [(0, .ref b), (1, .ref a1), (2, .ref a2), (3, .ref a3), (4, .int x4)] [] S k n (jb_L_law_148 fu E xs L a1 a2 a3 rc x4 S) t := by
  unfold jb_L_law_148
  refine K_aload_n dL_law_148 rfl rfl ?_
  refine K_aload_n dL_law_149 rfl rfl ?_
  refine K_iload dL_law_150 rfl ?_
  refine K_iconst (v := 1) dL_law_152 (by decide) ?_
  refine K_iadd dL_law_153 ?_
  refine K_chk (fun h4 => ?_)
  refine K_sld hs dL_law_154 h4 ?_
  refine K_aload_n dL_law_155 rfl rfl ?_
  refine K_iload dL_law_156 rfl ?_
  refine K_iconst (v := 2) dL_law_158 (by decide) ?_
  refine K_iadd dL_law_159 ?_
  refine K_chk (fun h5 => ?_)
  refine K_sld hs dL_law_160 h5 ?_
  refine K_if_eq (tgt := 168) dL_law_161 (by decide) (fun c34 => ?_) (fun c34 => ?_)
  · refine K_iconst (v := 0) dL_law_168 (by decide) ?_
    refine K_aload_n dL_law_169 rfl rfl ?_
    refine K_bind (fun u6 hu6 => ?_)
    refine K_callSWI (As := [.ref a1, .int (xs (x4 + 1).toNatClampNeg), .int 0, .ref a3]) (k_L_declareClass fu hE ha1 ha3 hu6) dL_law_170 w_L_89 rfl rfl (Nat.le_of_ble_eq_true rfl) ⟨Nat.le_of_ble_eq_true rfl, Nat.le_of_ble_eq_true rfl, by show k + 0 + 1 ≤ 601024; omega, by show n + 0 + 6 ≤ 7293034; omega⟩ ?_
    refine K_istore (ls' := [(0, _), (1, _), (2, _), (3, _), (4, _), (5, _)]) dL_law_173 (by decide) rfl ?_
    refine K_aload_n dL_law_175 rfl rfl ?_
    refine K_aload_n dL_law_176 rfl rfl ?_
    refine K_iload dL_law_177 rfl ?_
    refine K_iconst (v := 1) dL_law_179 (by decide) ?_
    refine K_iadd dL_law_180 ?_
    refine K_chk (fun h7 => ?_)
    refine K_sld hs dL_law_181 h7 ?_
    refine K_aload_n dL_law_182 rfl rfl ?_
    refine K_iload dL_law_183 rfl ?_
    refine K_iconst (v := 2) dL_law_185 (by decide) ?_
    refine K_iadd dL_law_186 ?_
    refine K_chk (fun h8 => ?_)
    refine K_sld hs dL_law_187 h8 ?_
    refine K_if_eq (tgt := 195) dL_law_188 (by decide) (fun c19 => ?_) (fun c19 => ?_)
    · refine K_iconst (v := 0) dL_law_195 (by decide) ?_
      refine K_bind (fun u9 hu9 => ?_)
      refine K_callVI (As := [.int (xs (x4 + 1).toNatClampNeg), .int 0]) (k_X12_declareClass fu hE ha2 hu9) dL_law_196 v_L_94 ha2 rfl rfl rfl rfl (Nat.le_of_ble_eq_true rfl) ⟨Nat.le_of_ble_eq_true rfl, Nat.le_of_ble_eq_true rfl, by show k + 1 + 0 ≤ 601024; omega, by show n + 6 + 0 ≤ 7293034; omega⟩ ?_
      refine K_istore (ls' := [(0, _), (1, _), (2, _), (3, _), (4, _), (5, _), (6, _)]) dL_law_199 (by decide) rfl ?_
      refine K_aload_n dL_law_201 rfl rfl ?_
      refine K_bind (fun u10 hu10 => ?_)
      refine K_callVI (As := []) (k_X12_thrown fu hE ha2 hu10) dL_law_202 v_L_95 ha2 rfl rfl rfl rfl (Nat.le_of_ble_eq_true rfl) ⟨Nat.le_of_ble_eq_true rfl, Nat.le_of_ble_eq_true rfl, by show k + 1 + 0 ≤ 601024; omega, by show n + 6 + 0 ≤ 7293034; omega⟩ ?_
      refine K_iload dL_law_205 rfl ?_
      refine K_icmp_eq (tgt := 212) dL_law_207 (by decide) (fun c13 => ?_) (fun c13 => ?_)
      · refine K_iload dL_law_212 rfl ?_
        refine K_if_ne (tgt := 229) dL_law_214 (by decide) (fun c12 => ?_) (fun c12 => ?_)
        · refine K_goto (tgt := 1518) dL_law_229 (by decide) ?_
          refine K_iinc (v := (x4 + 5)) (ls' := [(0, _), (1, _), (2, _), (3, _), (4, _), (5, _), (6, _)]) dL_law_1518 rfl rfl (by decide) rfl ?_
          refine K_goto (tgt := 23) dL_law_1521 (by decide) ?_
          refine K.keep [0, 1, 2, 3, 4] ?_
          exact hrc (x4 + 5) u10.2 _ _ (by show k + 1 + F ≤ 601024; omega) (by show n + 6 + G ≤ 7293034; omega)
        · refine K_aload_n dL_law_217 rfl rfl ?_
          refine K_iconst (v := 0) dL_law_218 (by decide) ?_
          refine K_lald dL_law_219 ha3 (by decide) ?_
          refine K_iload dL_law_220 rfl ?_
          refine K_i2l dL_law_222 ?_
          refine K_lcmp dL_law_223 ?_
          refine K_if_eq (tgt := 229) dL_law_224 (by decide) (fun c11 => ?_) (fun c11 => ?_)
          · refine K_goto (tgt := 1518) dL_law_229 (by decide) ?_
            refine K_iinc (v := (x4 + 5)) (ls' := [(0, _), (1, _), (2, _), (3, _), (4, _), (5, _), (6, _)]) dL_law_1518 rfl rfl (by decide) rfl ?_
            refine K_goto (tgt := 23) dL_law_1521 (by decide) ?_
            refine K.keep [0, 1, 2, 3, 4] ?_
            exact hrc (x4 + 5) u10.2 _ _ (by show k + 1 + F ≤ 601024; omega) (by show n + 6 + G ≤ 7293034; omega)
          · refine K_iconst (v := 0) dL_law_227 (by decide) ?_
            exact K_lawret hQ ht dL_law_228 (by show k + 1 ≤ 601024; omega) (by show n + 6 ≤ 7293034; omega)
      · refine K_iconst (v := 0) dL_law_210 (by decide) ?_
        exact K_lawret hQ ht dL_law_211 (by show k + 1 ≤ 601024; omega) (by show n + 6 ≤ 7293034; omega)
    · refine K_iconst (v := 1) dL_law_191 (by decide) ?_
      refine K_goto (tgt := 196) dL_law_192 (by decide) ?_
      refine K_bind (fun u14 hu14 => ?_)
      refine K_callVI (As := [.int (xs (x4 + 1).toNatClampNeg), .int 1]) (k_X12_declareClass fu hE ha2 hu14) dL_law_196 v_L_94 ha2 rfl rfl rfl rfl (Nat.le_of_ble_eq_true rfl) ⟨Nat.le_of_ble_eq_true rfl, Nat.le_of_ble_eq_true rfl, by show k + 1 + 0 ≤ 601024; omega, by show n + 6 + 0 ≤ 7293034; omega⟩ ?_
      refine K_istore (ls' := [(0, _), (1, _), (2, _), (3, _), (4, _), (5, _), (6, _)]) dL_law_199 (by decide) rfl ?_
      refine K_aload_n dL_law_201 rfl rfl ?_
      refine K_bind (fun u15 hu15 => ?_)
      refine K_callVI (As := []) (k_X12_thrown fu hE ha2 hu15) dL_law_202 v_L_95 ha2 rfl rfl rfl rfl (Nat.le_of_ble_eq_true rfl) ⟨Nat.le_of_ble_eq_true rfl, Nat.le_of_ble_eq_true rfl, by show k + 1 + 0 ≤ 601024; omega, by show n + 6 + 0 ≤ 7293034; omega⟩ ?_
      refine K_iload dL_law_205 rfl ?_
      refine K_icmp_eq (tgt := 212) dL_law_207 (by decide) (fun c18 => ?_) (fun c18 => ?_)
      · refine K_iload dL_law_212 rfl ?_
        refine K_if_ne (tgt := 229) dL_law_214 (by decide) (fun c17 => ?_) (fun c17 => ?_)
        · refine K_goto (tgt := 1518) dL_law_229 (by decide) ?_
          refine K_iinc (v := (x4 + 5)) (ls' := [(0, _), (1, _), (2, _), (3, _), (4, _), (5, _), (6, _)]) dL_law_1518 rfl rfl (by decide) rfl ?_
          refine K_goto (tgt := 23) dL_law_1521 (by decide) ?_
          refine K.keep [0, 1, 2, 3, 4] ?_
          exact hrc (x4 + 5) u15.2 _ _ (by show k + 1 + F ≤ 601024; omega) (by show n + 6 + G ≤ 7293034; omega)
        · refine K_aload_n dL_law_217 rfl rfl ?_
          refine K_iconst (v := 0) dL_law_218 (by decide) ?_
          refine K_lald dL_law_219 ha3 (by decide) ?_
          refine K_iload dL_law_220 rfl ?_
          refine K_i2l dL_law_222 ?_
          refine K_lcmp dL_law_223 ?_
          refine K_if_eq (tgt := 229) dL_law_224 (by decide) (fun c16 => ?_) (fun c16 => ?_)
          · refine K_goto (tgt := 1518) dL_law_229 (by decide) ?_
            refine K_iinc (v := (x4 + 5)) (ls' := [(0, _), (1, _), (2, _), (3, _), (4, _), (5, _), (6, _)]) dL_law_1518 rfl rfl (by decide) rfl ?_
            refine K_goto (tgt := 23) dL_law_1521 (by decide) ?_
            refine K.keep [0, 1, 2, 3, 4] ?_
            exact hrc (x4 + 5) u15.2 _ _ (by show k + 1 + F ≤ 601024; omega) (by show n + 6 + G ≤ 7293034; omega)
          · refine K_iconst (v := 0) dL_law_227 (by decide) ?_
            exact K_lawret hQ ht dL_law_228 (by show k + 1 ≤ 601024; omega) (by show n + 6 ≤ 7293034; omega)
      · refine K_iconst (v := 0) dL_law_210 (by decide) ?_
        exact K_lawret hQ ht dL_law_211 (by show k + 1 ≤ 601024; omega) (by show n + 6 ≤ 7293034; omega)
  · refine K_iconst (v := 1) dL_law_164 (by decide) ?_
    refine K_goto (tgt := 169) dL_law_165 (by decide) ?_
    refine K_aload_n dL_law_169 rfl rfl ?_
    refine K_bind (fun u20 hu20 => ?_)
    refine K_callSWI (As := [.ref a1, .int (xs (x4 + 1).toNatClampNeg), .int 1, .ref a3]) (k_L_declareClass fu hE ha1 ha3 hu20) dL_law_170 w_L_89 rfl rfl (Nat.le_of_ble_eq_true rfl) ⟨Nat.le_of_ble_eq_true rfl, Nat.le_of_ble_eq_true rfl, by show k + 0 + 1 ≤ 601024; omega, by show n + 0 + 6 ≤ 7293034; omega⟩ ?_
    refine K_istore (ls' := [(0, _), (1, _), (2, _), (3, _), (4, _), (5, _)]) dL_law_173 (by decide) rfl ?_
    refine K_aload_n dL_law_175 rfl rfl ?_
    refine K_aload_n dL_law_176 rfl rfl ?_
    refine K_iload dL_law_177 rfl ?_
    refine K_iconst (v := 1) dL_law_179 (by decide) ?_
    refine K_iadd dL_law_180 ?_
    refine K_chk (fun h21 => ?_)
    refine K_sld hs dL_law_181 h21 ?_
    refine K_aload_n dL_law_182 rfl rfl ?_
    refine K_iload dL_law_183 rfl ?_
    refine K_iconst (v := 2) dL_law_185 (by decide) ?_
    refine K_iadd dL_law_186 ?_
    refine K_chk (fun h22 => ?_)
    refine K_sld hs dL_law_187 h22 ?_
    refine K_if_eq (tgt := 195) dL_law_188 (by decide) (fun c33 => ?_) (fun c33 => ?_)
    · refine K_iconst (v := 0) dL_law_195 (by decide) ?_
      refine K_bind (fun u23 hu23 => ?_)
      refine K_callVI (As := [.int (xs (x4 + 1).toNatClampNeg), .int 0]) (k_X12_declareClass fu hE ha2 hu23) dL_law_196 v_L_94 ha2 rfl rfl rfl rfl (Nat.le_of_ble_eq_true rfl) ⟨Nat.le_of_ble_eq_true rfl, Nat.le_of_ble_eq_true rfl, by show k + 1 + 0 ≤ 601024; omega, by show n + 6 + 0 ≤ 7293034; omega⟩ ?_
      refine K_istore (ls' := [(0, _), (1, _), (2, _), (3, _), (4, _), (5, _), (6, _)]) dL_law_199 (by decide) rfl ?_
      refine K_aload_n dL_law_201 rfl rfl ?_
      refine K_bind (fun u24 hu24 => ?_)
      refine K_callVI (As := []) (k_X12_thrown fu hE ha2 hu24) dL_law_202 v_L_95 ha2 rfl rfl rfl rfl (Nat.le_of_ble_eq_true rfl) ⟨Nat.le_of_ble_eq_true rfl, Nat.le_of_ble_eq_true rfl, by show k + 1 + 0 ≤ 601024; omega, by show n + 6 + 0 ≤ 7293034; omega⟩ ?_
      refine K_iload dL_law_205 rfl ?_
      refine K_icmp_eq (tgt := 212) dL_law_207 (by decide) (fun c27 => ?_) (fun c27 => ?_)
      · refine K_iload dL_law_212 rfl ?_
        refine K_if_ne (tgt := 229) dL_law_214 (by decide) (fun c26 => ?_) (fun c26 => ?_)
        · refine K_goto (tgt := 1518) dL_law_229 (by decide) ?_
          refine K_iinc (v := (x4 + 5)) (ls' := [(0, _), (1, _), (2, _), (3, _), (4, _), (5, _), (6, _)]) dL_law_1518 rfl rfl (by decide) rfl ?_
          refine K_goto (tgt := 23) dL_law_1521 (by decide) ?_
          refine K.keep [0, 1, 2, 3, 4] ?_
          exact hrc (x4 + 5) u24.2 _ _ (by show k + 1 + F ≤ 601024; omega) (by show n + 6 + G ≤ 7293034; omega)
        · refine K_aload_n dL_law_217 rfl rfl ?_
          refine K_iconst (v := 0) dL_law_218 (by decide) ?_
          refine K_lald dL_law_219 ha3 (by decide) ?_
          refine K_iload dL_law_220 rfl ?_
          refine K_i2l dL_law_222 ?_
          refine K_lcmp dL_law_223 ?_
          refine K_if_eq (tgt := 229) dL_law_224 (by decide) (fun c25 => ?_) (fun c25 => ?_)
          · refine K_goto (tgt := 1518) dL_law_229 (by decide) ?_
            refine K_iinc (v := (x4 + 5)) (ls' := [(0, _), (1, _), (2, _), (3, _), (4, _), (5, _), (6, _)]) dL_law_1518 rfl rfl (by decide) rfl ?_
            refine K_goto (tgt := 23) dL_law_1521 (by decide) ?_
            refine K.keep [0, 1, 2, 3, 4] ?_
            exact hrc (x4 + 5) u24.2 _ _ (by show k + 1 + F ≤ 601024; omega) (by show n + 6 + G ≤ 7293034; omega)
          · refine K_iconst (v := 0) dL_law_227 (by decide) ?_
            exact K_lawret hQ ht dL_law_228 (by show k + 1 ≤ 601024; omega) (by show n + 6 ≤ 7293034; omega)
      · refine K_iconst (v := 0) dL_law_210 (by decide) ?_
        exact K_lawret hQ ht dL_law_211 (by show k + 1 ≤ 601024; omega) (by show n + 6 ≤ 7293034; omega)
    · refine K_iconst (v := 1) dL_law_191 (by decide) ?_
      refine K_goto (tgt := 196) dL_law_192 (by decide) ?_
      refine K_bind (fun u28 hu28 => ?_)
      refine K_callVI (As := [.int (xs (x4 + 1).toNatClampNeg), .int 1]) (k_X12_declareClass fu hE ha2 hu28) dL_law_196 v_L_94 ha2 rfl rfl rfl rfl (Nat.le_of_ble_eq_true rfl) ⟨Nat.le_of_ble_eq_true rfl, Nat.le_of_ble_eq_true rfl, by show k + 1 + 0 ≤ 601024; omega, by show n + 6 + 0 ≤ 7293034; omega⟩ ?_
      refine K_istore (ls' := [(0, _), (1, _), (2, _), (3, _), (4, _), (5, _), (6, _)]) dL_law_199 (by decide) rfl ?_
      refine K_aload_n dL_law_201 rfl rfl ?_
      refine K_bind (fun u29 hu29 => ?_)
      refine K_callVI (As := []) (k_X12_thrown fu hE ha2 hu29) dL_law_202 v_L_95 ha2 rfl rfl rfl rfl (Nat.le_of_ble_eq_true rfl) ⟨Nat.le_of_ble_eq_true rfl, Nat.le_of_ble_eq_true rfl, by show k + 1 + 0 ≤ 601024; omega, by show n + 6 + 0 ≤ 7293034; omega⟩ ?_
      refine K_iload dL_law_205 rfl ?_
      refine K_icmp_eq (tgt := 212) dL_law_207 (by decide) (fun c32 => ?_) (fun c32 => ?_)
      · refine K_iload dL_law_212 rfl ?_
        refine K_if_ne (tgt := 229) dL_law_214 (by decide) (fun c31 => ?_) (fun c31 => ?_)
        · refine K_goto (tgt := 1518) dL_law_229 (by decide) ?_
          refine K_iinc (v := (x4 + 5)) (ls' := [(0, _), (1, _), (2, _), (3, _), (4, _), (5, _), (6, _)]) dL_law_1518 rfl rfl (by decide) rfl ?_
          refine K_goto (tgt := 23) dL_law_1521 (by decide) ?_
          refine K.keep [0, 1, 2, 3, 4] ?_
          exact hrc (x4 + 5) u29.2 _ _ (by show k + 1 + F ≤ 601024; omega) (by show n + 6 + G ≤ 7293034; omega)
        · refine K_aload_n dL_law_217 rfl rfl ?_
          refine K_iconst (v := 0) dL_law_218 (by decide) ?_
          refine K_lald dL_law_219 ha3 (by decide) ?_
          refine K_iload dL_law_220 rfl ?_
          refine K_i2l dL_law_222 ?_
          refine K_lcmp dL_law_223 ?_
          refine K_if_eq (tgt := 229) dL_law_224 (by decide) (fun c30 => ?_) (fun c30 => ?_)
          · refine K_goto (tgt := 1518) dL_law_229 (by decide) ?_
            refine K_iinc (v := (x4 + 5)) (ls' := [(0, _), (1, _), (2, _), (3, _), (4, _), (5, _), (6, _)]) dL_law_1518 rfl rfl (by decide) rfl ?_
            refine K_goto (tgt := 23) dL_law_1521 (by decide) ?_
            refine K.keep [0, 1, 2, 3, 4] ?_
            exact hrc (x4 + 5) u29.2 _ _ (by show k + 1 + F ≤ 601024; omega) (by show n + 6 + G ≤ 7293034; omega)
          · refine K_iconst (v := 0) dL_law_227 (by decide) ?_
            exact K_lawret hQ ht dL_law_228 (by show k + 1 ≤ 601024; omega) (by show n + 6 ≤ 7293034; omega)
      · refine K_iconst (v := 0) dL_law_210 (by decide) ?_
        exact K_lawret hQ ht dL_law_211 (by show k + 1 ≤ 601024; omega) (by show n + 6 ≤ 7293034; omega)
def jb_L_law_232 (fu : Nat) (E : Ev) (xs : Nat → Int32) (L a1 a2 a3 : Nat) (rc : Int32 → St → Option (Int32 × St)) (x4 : Int32) (S : St) : Option (Int32 × St) :=
  if inb (x4 + 1) L = true then
    (
    if inb (x4 + 2) L = true then
      (
      (sp_L_declareField fu E S a1 (xs (x4 + 1).toNatClampNeg) (xs (x4 + 2).toNatClampNeg) a3).bind fun u38 =>
      if inb (x4 + 1) L = true then
        (
        if inb (x4 + 2) L = true then
          (
          (sp_X12_declareField fu E u38.2 a2 (xs (x4 + 1).toNatClampNeg) (xs (x4 + 2).toNatClampNeg)).bind fun u41 =>
          (sp_X12_thrown fu E u41.2 a2).bind fun u42 =>
          if u42.1 = u38.1 then (
            if u38.1 = 0 then (
              if (lg_cmp (u42.2.2.2.2 a3 (0 : Int32).toNatClampNeg) u41.1.toInt64) = 0 then (
                rc (x4 + 5) u42.2
              ) else (
                some (0, u42.2)
              )
            ) else (
              rc (x4 + 5) u42.2
            )
          ) else (
            some (0, u42.2)
          )
          )
        else none
        )
      else none
      )
    else none
    )
  else none
set_option maxRecDepth 100000 in
theorem kj_L_law_232 {X : Cx} {E : Ev} {t : Int32 × St} {b L a1 a2 a3 : Nat} {xs : Nat → Int32} {rc : Int32 → St → Option (Int32 × St)} (hQ : EndL mL_law X) (ht : t.1 = 1) (hE : WE E) (hs : Scr X b L xs) (ha1 : E.1 a1 = some (0, 9, 0)) (ha2 : E.1 a2 = some (0, 10, 0)) (ha3 : E.1 a3 = some (1, 2, 1)) (fu : Nat) (k n F G : Nat) (hk : k + 8 + F ≤ 601024) (hn : n + 48 + G ≤ 7293034) (hrc : ∀ (x4 : Int32) (S : St) (k1 n1 : Nat), k1 + F ≤ 601024 → n1 + G ≤ 7293034 → K mL_law X E 23 [(0, .ref b), (1, .ref a1), (2, .ref a2), (3, .ref a3), (4, .int x4)] [] S k1 n1 (rc x4 S) t) (x4 : Int32) (S : St) : K mL_law X E 232 [(0, .ref b), (1, .ref a1), (2, .ref a2), (3, .ref a3), (4, .int x4)] [] S k n (jb_L_law_232 fu E xs L a1 a2 a3 rc x4 S) t := by
  unfold jb_L_law_232
  refine K_aload_n dL_law_232 rfl rfl ?_
  refine K_aload_n dL_law_233 rfl rfl ?_
  refine K_iload dL_law_234 rfl ?_
  refine K_iconst (v := 1) dL_law_236 (by decide) ?_
  refine K_iadd dL_law_237 ?_
  refine K_chk (fun h36 => ?_)
  refine K_sld hs dL_law_238 h36 ?_
  refine K_aload_n dL_law_239 rfl rfl ?_
  refine K_iload dL_law_240 rfl ?_
  refine K_iconst (v := 2) dL_law_242 (by decide) ?_
  refine K_iadd dL_law_243 ?_
  refine K_chk (fun h37 => ?_)
  refine K_sld hs dL_law_244 h37 ?_
  refine K_aload_n dL_law_245 rfl rfl ?_
  refine K_bind (fun u38 hu38 => ?_)
  refine K_callSWI (As := [.ref a1, .int (xs (x4 + 1).toNatClampNeg), .int (xs (x4 + 2).toNatClampNeg), .ref a3]) (k_L_declareField fu hE ha1 ha3 hu38) dL_law_246 w_L_98 rfl rfl (Nat.le_of_ble_eq_true rfl) ⟨Nat.le_of_ble_eq_true rfl, Nat.le_of_ble_eq_true rfl, by show k + 0 + 1 ≤ 601024; omega, by show n + 0 + 6 ≤ 7293034; omega⟩ ?_
  refine K_istore (ls' := [(0, _), (1, _), (2, _), (3, _), (4, _), (5, _)]) dL_law_249 (by decide) rfl ?_
  refine K_aload_n dL_law_251 rfl rfl ?_
  refine K_aload_n dL_law_252 rfl rfl ?_
  refine K_iload dL_law_253 rfl ?_
  refine K_iconst (v := 1) dL_law_255 (by decide) ?_
  refine K_iadd dL_law_256 ?_
  refine K_chk (fun h39 => ?_)
  refine K_sld hs dL_law_257 h39 ?_
  refine K_aload_n dL_law_258 rfl rfl ?_
  refine K_iload dL_law_259 rfl ?_
  refine K_iconst (v := 2) dL_law_261 (by decide) ?_
  refine K_iadd dL_law_262 ?_
  refine K_chk (fun h40 => ?_)
  refine K_sld hs dL_law_263 h40 ?_
  refine K_bind (fun u41 hu41 => ?_)
  refine K_callVI (As := [.int (xs (x4 + 1).toNatClampNeg), .int (xs (x4 + 2).toNatClampNeg)]) (k_X12_declareField fu hE ha2 hu41) dL_law_264 v_L_101 ha2 rfl rfl rfl rfl (Nat.le_of_ble_eq_true rfl) ⟨Nat.le_of_ble_eq_true rfl, Nat.le_of_ble_eq_true rfl, by show k + 1 + 0 ≤ 601024; omega, by show n + 6 + 0 ≤ 7293034; omega⟩ ?_
  refine K_istore (ls' := [(0, _), (1, _), (2, _), (3, _), (4, _), (5, _), (6, _)]) dL_law_267 (by decide) rfl ?_
  refine K_aload_n dL_law_269 rfl rfl ?_
  refine K_bind (fun u42 hu42 => ?_)
  refine K_callVI (As := []) (k_X12_thrown fu hE ha2 hu42) dL_law_270 v_L_95 ha2 rfl rfl rfl rfl (Nat.le_of_ble_eq_true rfl) ⟨Nat.le_of_ble_eq_true rfl, Nat.le_of_ble_eq_true rfl, by show k + 1 + 0 ≤ 601024; omega, by show n + 6 + 0 ≤ 7293034; omega⟩ ?_
  refine K_iload dL_law_273 rfl ?_
  refine K_icmp_eq (tgt := 280) dL_law_275 (by decide) (fun c45 => ?_) (fun c45 => ?_)
  · refine K_iload dL_law_280 rfl ?_
    refine K_if_ne (tgt := 297) dL_law_282 (by decide) (fun c44 => ?_) (fun c44 => ?_)
    · refine K_goto (tgt := 1518) dL_law_297 (by decide) ?_
      refine K_iinc (v := (x4 + 5)) (ls' := [(0, _), (1, _), (2, _), (3, _), (4, _), (5, _), (6, _)]) dL_law_1518 rfl rfl (by decide) rfl ?_
      refine K_goto (tgt := 23) dL_law_1521 (by decide) ?_
      refine K.keep [0, 1, 2, 3, 4] ?_
      exact hrc (x4 + 5) u42.2 _ _ (by show k + 1 + F ≤ 601024; omega) (by show n + 6 + G ≤ 7293034; omega)
    · refine K_aload_n dL_law_285 rfl rfl ?_
      refine K_iconst (v := 0) dL_law_286 (by decide) ?_
      refine K_lald dL_law_287 ha3 (by decide) ?_
      refine K_iload dL_law_288 rfl ?_
      refine K_i2l dL_law_290 ?_
      refine K_lcmp dL_law_291 ?_
      refine K_if_eq (tgt := 297) dL_law_292 (by decide) (fun c43 => ?_) (fun c43 => ?_)
      · refine K_goto (tgt := 1518) dL_law_297 (by decide) ?_
        refine K_iinc (v := (x4 + 5)) (ls' := [(0, _), (1, _), (2, _), (3, _), (4, _), (5, _), (6, _)]) dL_law_1518 rfl rfl (by decide) rfl ?_
        refine K_goto (tgt := 23) dL_law_1521 (by decide) ?_
        refine K.keep [0, 1, 2, 3, 4] ?_
        exact hrc (x4 + 5) u42.2 _ _ (by show k + 1 + F ≤ 601024; omega) (by show n + 6 + G ≤ 7293034; omega)
      · refine K_iconst (v := 0) dL_law_295 (by decide) ?_
        exact K_lawret hQ ht dL_law_296 (by show k + 1 ≤ 601024; omega) (by show n + 6 ≤ 7293034; omega)
  · refine K_iconst (v := 0) dL_law_278 (by decide) ?_
    exact K_lawret hQ ht dL_law_279 (by show k + 1 ≤ 601024; omega) (by show n + 6 ≤ 7293034; omega)
def jb_L_law_300 (fu : Nat) (E : Ev) (xs : Nat → Int32) (L a1 a2 a3 : Nat) (rc : Int32 → St → Option (Int32 × St)) (x4 : Int32) (S : St) : Option (Int32 × St) :=
  if inb (x4 + 1) L = true then
    (
    (sp_L_parameter fu E S a1 (xs (x4 + 1).toNatClampNeg) a3).bind fun u48 =>
    if inb (x4 + 1) L = true then
      (
      (sp_X12_parameter fu E u48.2 a2 (xs (x4 + 1).toNatClampNeg)).bind fun u50 =>
      (sp_X12_thrown fu E u50.2 a2).bind fun u51 =>
      if u51.1 = u48.1 then (
        if u48.1 = 0 then (
          if (lg_cmp (u51.2.2.2.2 a3 (0 : Int32).toNatClampNeg) u50.1.toInt64) = 0 then (
            rc (x4 + 5) u51.2
          ) else (
            some (0, u51.2)
          )
        ) else (
          rc (x4 + 5) u51.2
        )
      ) else (
        some (0, u51.2)
      )
      )
    else none
    )
  else none
set_option maxRecDepth 100000 in
theorem kj_L_law_300 {X : Cx} {E : Ev} {t : Int32 × St} {b L a1 a2 a3 : Nat} {xs : Nat → Int32} {rc : Int32 → St → Option (Int32 × St)} (hQ : EndL mL_law X) (ht : t.1 = 1) (hE : WE E) (hs : Scr X b L xs) (ha1 : E.1 a1 = some (0, 9, 0)) (ha2 : E.1 a2 = some (0, 10, 0)) (ha3 : E.1 a3 = some (1, 2, 1)) (fu : Nat) (k n F G : Nat) (hk : k + 8 + F ≤ 601024) (hn : n + 48 + G ≤ 7293034) (hrc : ∀ (x4 : Int32) (S : St) (k1 n1 : Nat), k1 + F ≤ 601024 → n1 + G ≤ 7293034 → K mL_law X E 23 [(0, .ref b), (1, .ref a1), (2, .ref a2), (3, .ref a3), (4, .int x4)] [] S k1 n1 (rc x4 S) t) (x4 : Int32) (S : St) : K mL_law X E 300 [(0, .ref b), (1, .ref a1), (2, .ref a2), (3, .ref a3), (4, .int x4)] [] S k n (jb_L_law_300 fu E xs L a1 a2 a3 rc x4 S) t := by
  unfold jb_L_law_300
  refine K_aload_n dL_law_300 rfl rfl ?_
  refine K_aload_n dL_law_301 rfl rfl ?_
  refine K_iload dL_law_302 rfl ?_
  refine K_iconst (v := 1) dL_law_304 (by decide) ?_
  refine K_iadd dL_law_305 ?_
  refine K_chk (fun h47 => ?_)
  refine K_sld hs dL_law_306 h47 ?_
  refine K_aload_n dL_law_307 rfl rfl ?_
  refine K_bind (fun u48 hu48 => ?_)
  refine K_callSWI (As := [.ref a1, .int (xs (x4 + 1).toNatClampNeg), .ref a3]) (k_L_parameter fu hE ha1 ha3 hu48) dL_law_308 w_L_102 rfl rfl (Nat.le_of_ble_eq_true rfl) ⟨Nat.le_of_ble_eq_true rfl, Nat.le_of_ble_eq_true rfl, by show k + 0 + 1 ≤ 601024; omega, by show n + 0 + 6 ≤ 7293034; omega⟩ ?_
  refine K_istore (ls' := [(0, _), (1, _), (2, _), (3, _), (4, _), (5, _)]) dL_law_311 (by decide) rfl ?_
  refine K_aload_n dL_law_313 rfl rfl ?_
  refine K_aload_n dL_law_314 rfl rfl ?_
  refine K_iload dL_law_315 rfl ?_
  refine K_iconst (v := 1) dL_law_317 (by decide) ?_
  refine K_iadd dL_law_318 ?_
  refine K_chk (fun h49 => ?_)
  refine K_sld hs dL_law_319 h49 ?_
  refine K_bind (fun u50 hu50 => ?_)
  refine K_callVI (As := [.int (xs (x4 + 1).toNatClampNeg)]) (k_X12_parameter fu hE ha2 hu50) dL_law_320 v_L_105 ha2 rfl rfl rfl rfl (Nat.le_of_ble_eq_true rfl) ⟨Nat.le_of_ble_eq_true rfl, Nat.le_of_ble_eq_true rfl, by show k + 1 + 0 ≤ 601024; omega, by show n + 6 + 0 ≤ 7293034; omega⟩ ?_
  refine K_istore (ls' := [(0, _), (1, _), (2, _), (3, _), (4, _), (5, _), (6, _)]) dL_law_323 (by decide) rfl ?_
  refine K_aload_n dL_law_325 rfl rfl ?_
  refine K_bind (fun u51 hu51 => ?_)
  refine K_callVI (As := []) (k_X12_thrown fu hE ha2 hu51) dL_law_326 v_L_95 ha2 rfl rfl rfl rfl (Nat.le_of_ble_eq_true rfl) ⟨Nat.le_of_ble_eq_true rfl, Nat.le_of_ble_eq_true rfl, by show k + 1 + 0 ≤ 601024; omega, by show n + 6 + 0 ≤ 7293034; omega⟩ ?_
  refine K_iload dL_law_329 rfl ?_
  refine K_icmp_eq (tgt := 336) dL_law_331 (by decide) (fun c54 => ?_) (fun c54 => ?_)
  · refine K_iload dL_law_336 rfl ?_
    refine K_if_ne (tgt := 353) dL_law_338 (by decide) (fun c53 => ?_) (fun c53 => ?_)
    · refine K_goto (tgt := 1518) dL_law_353 (by decide) ?_
      refine K_iinc (v := (x4 + 5)) (ls' := [(0, _), (1, _), (2, _), (3, _), (4, _), (5, _), (6, _)]) dL_law_1518 rfl rfl (by decide) rfl ?_
      refine K_goto (tgt := 23) dL_law_1521 (by decide) ?_
      refine K.keep [0, 1, 2, 3, 4] ?_
      exact hrc (x4 + 5) u51.2 _ _ (by show k + 1 + F ≤ 601024; omega) (by show n + 6 + G ≤ 7293034; omega)
    · refine K_aload_n dL_law_341 rfl rfl ?_
      refine K_iconst (v := 0) dL_law_342 (by decide) ?_
      refine K_lald dL_law_343 ha3 (by decide) ?_
      refine K_iload dL_law_344 rfl ?_
      refine K_i2l dL_law_346 ?_
      refine K_lcmp dL_law_347 ?_
      refine K_if_eq (tgt := 353) dL_law_348 (by decide) (fun c52 => ?_) (fun c52 => ?_)
      · refine K_goto (tgt := 1518) dL_law_353 (by decide) ?_
        refine K_iinc (v := (x4 + 5)) (ls' := [(0, _), (1, _), (2, _), (3, _), (4, _), (5, _), (6, _)]) dL_law_1518 rfl rfl (by decide) rfl ?_
        refine K_goto (tgt := 23) dL_law_1521 (by decide) ?_
        refine K.keep [0, 1, 2, 3, 4] ?_
        exact hrc (x4 + 5) u51.2 _ _ (by show k + 1 + F ≤ 601024; omega) (by show n + 6 + G ≤ 7293034; omega)
      · refine K_iconst (v := 0) dL_law_351 (by decide) ?_
        exact K_lawret hQ ht dL_law_352 (by show k + 1 ≤ 601024; omega) (by show n + 6 ≤ 7293034; omega)
  · refine K_iconst (v := 0) dL_law_334 (by decide) ?_
    exact K_lawret hQ ht dL_law_335 (by show k + 1 ≤ 601024; omega) (by show n + 6 ≤ 7293034; omega)
def jb_L_law_356 (fu : Nat) (E : Ev) (xs : Nat → Int32) (L a1 a2 a3 : Nat) (rc : Int32 → St → Option (Int32 × St)) (x4 : Int32) (S : St) : Option (Int32 × St) :=
  if inb (x4 + 1) L = true then
    (
    if inb (x4 + 2) L = true then
      (
      if inb (x4 + 3) L = true then
        (
        (sp_L_declareMethod fu E S a1 (xs (x4 + 1).toNatClampNeg) (xs (x4 + 2).toNatClampNeg) (xs (x4 + 3).toNatClampNeg) a3).bind fun u59 =>
        if inb (x4 + 1) L = true then
          (
          if inb (x4 + 2) L = true then
            (
            if inb (x4 + 3) L = true then
              (
              (sp_X12_declareMethod fu E u59.2 a2 (xs (x4 + 1).toNatClampNeg) (xs (x4 + 2).toNatClampNeg) (xs (x4 + 3).toNatClampNeg)).bind fun u63 =>
              (sp_X12_thrown fu E u63.2 a2).bind fun u64 =>
              if u64.1 = u59.1 then (
                if u59.1 = 0 then (
                  if (lg_cmp (u64.2.2.2.2 a3 (0 : Int32).toNatClampNeg) u63.1.toInt64) = 0 then (
                    rc (x4 + 5) u64.2
                  ) else (
                    some (0, u64.2)
                  )
                ) else (
                  rc (x4 + 5) u64.2
                )
              ) else (
                some (0, u64.2)
              )
              )
            else none
            )
          else none
          )
        else none
        )
      else none
      )
    else none
    )
  else none
set_option maxRecDepth 100000 in
theorem kj_L_law_356 {X : Cx} {E : Ev} {t : Int32 × St} {b L a1 a2 a3 : Nat} {xs : Nat → Int32} {rc : Int32 → St → Option (Int32 × St)} (hQ : EndL mL_law X) (ht : t.1 = 1) (hE : WE E) (hs : Scr X b L xs) (ha1 : E.1 a1 = some (0, 9, 0)) (ha2 : E.1 a2 = some (0, 10, 0)) (ha3 : E.1 a3 = some (1, 2, 1)) (fu : Nat) (k n F G : Nat) (hk : k + 8 + F ≤ 601024) (hn : n + 48 + G ≤ 7293034) (hrc : ∀ (x4 : Int32) (S : St) (k1 n1 : Nat), k1 + F ≤ 601024 → n1 + G ≤ 7293034 → K mL_law X E 23 [(0, .ref b), (1, .ref a1), (2, .ref a2), (3, .ref a3), (4, .int x4)] [] S k1 n1 (rc x4 S) t) (x4 : Int32) (S : St) : K mL_law X E 356 [(0, .ref b), (1, .ref a1), (2, .ref a2), (3, .ref a3), (4, .int x4)] [] S k n (jb_L_law_356 fu E xs L a1 a2 a3 rc x4 S) t := by
  unfold jb_L_law_356
  refine K_aload_n dL_law_356 rfl rfl ?_
  refine K_aload_n dL_law_357 rfl rfl ?_
  refine K_iload dL_law_358 rfl ?_
  refine K_iconst (v := 1) dL_law_360 (by decide) ?_
  refine K_iadd dL_law_361 ?_
  refine K_chk (fun h56 => ?_)
  refine K_sld hs dL_law_362 h56 ?_
  refine K_aload_n dL_law_363 rfl rfl ?_
  refine K_iload dL_law_364 rfl ?_
  refine K_iconst (v := 2) dL_law_366 (by decide) ?_
  refine K_iadd dL_law_367 ?_
  refine K_chk (fun h57 => ?_)
  refine K_sld hs dL_law_368 h57 ?_
  refine K_aload_n dL_law_369 rfl rfl ?_
  refine K_iload dL_law_370 rfl ?_
  refine K_iconst (v := 3) dL_law_372 (by decide) ?_
  refine K_iadd dL_law_373 ?_
  refine K_chk (fun h58 => ?_)
  refine K_sld hs dL_law_374 h58 ?_
  refine K_aload_n dL_law_375 rfl rfl ?_
  refine K_bind (fun u59 hu59 => ?_)
  refine K_callSWI (As := [.ref a1, .int (xs (x4 + 1).toNatClampNeg), .int (xs (x4 + 2).toNatClampNeg), .int (xs (x4 + 3).toNatClampNeg), .ref a3]) (k_L_declareMethod fu hE ha1 ha3 hu59) dL_law_376 w_L_106 rfl rfl (Nat.le_of_ble_eq_true rfl) ⟨Nat.le_of_ble_eq_true rfl, Nat.le_of_ble_eq_true rfl, by show k + 0 + 1 ≤ 601024; omega, by show n + 0 + 6 ≤ 7293034; omega⟩ ?_
  refine K_istore (ls' := [(0, _), (1, _), (2, _), (3, _), (4, _), (5, _)]) dL_law_379 (by decide) rfl ?_
  refine K_aload_n dL_law_381 rfl rfl ?_
  refine K_aload_n dL_law_382 rfl rfl ?_
  refine K_iload dL_law_383 rfl ?_
  refine K_iconst (v := 1) dL_law_385 (by decide) ?_
  refine K_iadd dL_law_386 ?_
  refine K_chk (fun h60 => ?_)
  refine K_sld hs dL_law_387 h60 ?_
  refine K_aload_n dL_law_388 rfl rfl ?_
  refine K_iload dL_law_389 rfl ?_
  refine K_iconst (v := 2) dL_law_391 (by decide) ?_
  refine K_iadd dL_law_392 ?_
  refine K_chk (fun h61 => ?_)
  refine K_sld hs dL_law_393 h61 ?_
  refine K_aload_n dL_law_394 rfl rfl ?_
  refine K_iload dL_law_395 rfl ?_
  refine K_iconst (v := 3) dL_law_397 (by decide) ?_
  refine K_iadd dL_law_398 ?_
  refine K_chk (fun h62 => ?_)
  refine K_sld hs dL_law_399 h62 ?_
  refine K_bind (fun u63 hu63 => ?_)
  refine K_callVI (As := [.int (xs (x4 + 1).toNatClampNeg), .int (xs (x4 + 2).toNatClampNeg), .int (xs (x4 + 3).toNatClampNeg)]) (k_X12_declareMethod fu hE ha2 hu63) dL_law_400 v_L_109 ha2 rfl rfl rfl rfl (Nat.le_of_ble_eq_true rfl) ⟨Nat.le_of_ble_eq_true rfl, Nat.le_of_ble_eq_true rfl, by show k + 1 + 0 ≤ 601024; omega, by show n + 6 + 0 ≤ 7293034; omega⟩ ?_
  refine K_istore (ls' := [(0, _), (1, _), (2, _), (3, _), (4, _), (5, _), (6, _)]) dL_law_403 (by decide) rfl ?_
  refine K_aload_n dL_law_405 rfl rfl ?_
  refine K_bind (fun u64 hu64 => ?_)
  refine K_callVI (As := []) (k_X12_thrown fu hE ha2 hu64) dL_law_406 v_L_95 ha2 rfl rfl rfl rfl (Nat.le_of_ble_eq_true rfl) ⟨Nat.le_of_ble_eq_true rfl, Nat.le_of_ble_eq_true rfl, by show k + 1 + 0 ≤ 601024; omega, by show n + 6 + 0 ≤ 7293034; omega⟩ ?_
  refine K_iload dL_law_409 rfl ?_
  refine K_icmp_eq (tgt := 416) dL_law_411 (by decide) (fun c67 => ?_) (fun c67 => ?_)
  · refine K_iload dL_law_416 rfl ?_
    refine K_if_ne (tgt := 433) dL_law_418 (by decide) (fun c66 => ?_) (fun c66 => ?_)
    · refine K_goto (tgt := 1518) dL_law_433 (by decide) ?_
      refine K_iinc (v := (x4 + 5)) (ls' := [(0, _), (1, _), (2, _), (3, _), (4, _), (5, _), (6, _)]) dL_law_1518 rfl rfl (by decide) rfl ?_
      refine K_goto (tgt := 23) dL_law_1521 (by decide) ?_
      refine K.keep [0, 1, 2, 3, 4] ?_
      exact hrc (x4 + 5) u64.2 _ _ (by show k + 1 + F ≤ 601024; omega) (by show n + 6 + G ≤ 7293034; omega)
    · refine K_aload_n dL_law_421 rfl rfl ?_
      refine K_iconst (v := 0) dL_law_422 (by decide) ?_
      refine K_lald dL_law_423 ha3 (by decide) ?_
      refine K_iload dL_law_424 rfl ?_
      refine K_i2l dL_law_426 ?_
      refine K_lcmp dL_law_427 ?_
      refine K_if_eq (tgt := 433) dL_law_428 (by decide) (fun c65 => ?_) (fun c65 => ?_)
      · refine K_goto (tgt := 1518) dL_law_433 (by decide) ?_
        refine K_iinc (v := (x4 + 5)) (ls' := [(0, _), (1, _), (2, _), (3, _), (4, _), (5, _), (6, _)]) dL_law_1518 rfl rfl (by decide) rfl ?_
        refine K_goto (tgt := 23) dL_law_1521 (by decide) ?_
        refine K.keep [0, 1, 2, 3, 4] ?_
        exact hrc (x4 + 5) u64.2 _ _ (by show k + 1 + F ≤ 601024; omega) (by show n + 6 + G ≤ 7293034; omega)
      · refine K_iconst (v := 0) dL_law_431 (by decide) ?_
        exact K_lawret hQ ht dL_law_432 (by show k + 1 ≤ 601024; omega) (by show n + 6 ≤ 7293034; omega)
  · refine K_iconst (v := 0) dL_law_414 (by decide) ?_
    exact K_lawret hQ ht dL_law_415 (by show k + 1 ≤ 601024; omega) (by show n + 6 ≤ 7293034; omega)
def jb_L_law_436 (fu : Nat) (E : Ev) (xs : Nat → Int32) (L a1 a2 a3 : Nat) (rc : Int32 → St → Option (Int32 × St)) (x4 : Int32) (S : St) : Option (Int32 × St) :=
  if inb (x4 + 1) L = true then
    (
    if inb (x4 + 2) L = true then
      (
      (sp_L_isAssignable fu E S a1 (xs (x4 + 1).toNatClampNeg) (xs (x4 + 2).toNatClampNeg) a3).bind fun u71 =>
      if inb (x4 + 1) L = true then
        (
        if inb (x4 + 2) L = true then
          (
          (sp_X12_isAssignable fu E u71.2 a2 (xs (x4 + 1).toNatClampNeg) (xs (x4 + 2).toNatClampNeg)).bind fun u74 =>
          (sp_X12_thrown fu E u74.2 a2).bind fun u75 =>
          if u75.1 = u71.1 then (
            if u71.1 = 0 then (
              if u74.1 = 0 then (
                if (lg_cmp (u75.2.2.2.2 a3 (0 : Int32).toNatClampNeg) 0) = 0 then (
                  rc (x4 + 5) u75.2
                ) else (
                  some (0, u75.2)
                )
              ) else (
                if (lg_cmp (u75.2.2.2.2 a3 (0 : Int32).toNatClampNeg) 1) = 0 then (
                  rc (x4 + 5) u75.2
                ) else (
                  some (0, u75.2)
                )
              )
            ) else (
              rc (x4 + 5) u75.2
            )
          ) else (
            some (0, u75.2)
          )
          )
        else none
        )
      else none
      )
    else none
    )
  else none
set_option maxRecDepth 100000 in
theorem kj_L_law_436 {X : Cx} {E : Ev} {t : Int32 × St} {b L a1 a2 a3 : Nat} {xs : Nat → Int32} {rc : Int32 → St → Option (Int32 × St)} (hQ : EndL mL_law X) (ht : t.1 = 1) (hE : WE E) (hs : Scr X b L xs) (ha1 : E.1 a1 = some (0, 9, 0)) (ha2 : E.1 a2 = some (0, 10, 0)) (ha3 : E.1 a3 = some (1, 2, 1)) (fu : Nat) (k n F G : Nat) (hk : k + 8 + F ≤ 601024) (hn : n + 48 + G ≤ 7293034) (hrc : ∀ (x4 : Int32) (S : St) (k1 n1 : Nat), k1 + F ≤ 601024 → n1 + G ≤ 7293034 → K mL_law X E 23 [(0, .ref b), (1, .ref a1), (2, .ref a2), (3, .ref a3), (4, .int x4)] [] S k1 n1 (rc x4 S) t) (x4 : Int32) (S : St) : K mL_law X E 436 [(0, .ref b), (1, .ref a1), (2, .ref a2), (3, .ref a3), (4, .int x4)] [] S k n (jb_L_law_436 fu E xs L a1 a2 a3 rc x4 S) t := by
  unfold jb_L_law_436
  refine K_aload_n dL_law_436 rfl rfl ?_
  refine K_aload_n dL_law_437 rfl rfl ?_
  refine K_iload dL_law_438 rfl ?_
  refine K_iconst (v := 1) dL_law_440 (by decide) ?_
  refine K_iadd dL_law_441 ?_
  refine K_chk (fun h69 => ?_)
  refine K_sld hs dL_law_442 h69 ?_
  refine K_aload_n dL_law_443 rfl rfl ?_
  refine K_iload dL_law_444 rfl ?_
  refine K_iconst (v := 2) dL_law_446 (by decide) ?_
  refine K_iadd dL_law_447 ?_
  refine K_chk (fun h70 => ?_)
  refine K_sld hs dL_law_448 h70 ?_
  refine K_aload_n dL_law_449 rfl rfl ?_
  refine K_bind (fun u71 hu71 => ?_)
  refine K_callSWI (As := [.ref a1, .int (xs (x4 + 1).toNatClampNeg), .int (xs (x4 + 2).toNatClampNeg), .ref a3]) (k_L_isAssignable fu hE ha1 ha3 hu71) dL_law_450 w_L_110 rfl rfl (Nat.le_of_ble_eq_true rfl) ⟨Nat.le_of_ble_eq_true rfl, Nat.le_of_ble_eq_true rfl, by show k + 0 + 1 ≤ 601024; omega, by show n + 0 + 6 ≤ 7293034; omega⟩ ?_
  refine K_istore (ls' := [(0, _), (1, _), (2, _), (3, _), (4, _), (5, _)]) dL_law_453 (by decide) rfl ?_
  refine K_aload_n dL_law_455 rfl rfl ?_
  refine K_aload_n dL_law_456 rfl rfl ?_
  refine K_iload dL_law_457 rfl ?_
  refine K_iconst (v := 1) dL_law_459 (by decide) ?_
  refine K_iadd dL_law_460 ?_
  refine K_chk (fun h72 => ?_)
  refine K_sld hs dL_law_461 h72 ?_
  refine K_aload_n dL_law_462 rfl rfl ?_
  refine K_iload dL_law_463 rfl ?_
  refine K_iconst (v := 2) dL_law_465 (by decide) ?_
  refine K_iadd dL_law_466 ?_
  refine K_chk (fun h73 => ?_)
  refine K_sld hs dL_law_467 h73 ?_
  refine K_bind (fun u74 hu74 => ?_)
  refine K_callVI (As := [.int (xs (x4 + 1).toNatClampNeg), .int (xs (x4 + 2).toNatClampNeg)]) (k_X12_isAssignable fu hE ha2 hu74) dL_law_468 v_L_112 ha2 rfl rfl rfl rfl (Nat.le_of_ble_eq_true rfl) ⟨Nat.le_of_ble_eq_true rfl, Nat.le_of_ble_eq_true rfl, by show k + 1 + 0 ≤ 601024; omega, by show n + 6 + 0 ≤ 7293034; omega⟩ ?_
  refine K_istore (ls' := [(0, _), (1, _), (2, _), (3, _), (4, _), (5, _), (6, _)]) dL_law_471 (by decide) rfl ?_
  refine K_aload_n dL_law_473 rfl rfl ?_
  refine K_bind (fun u75 hu75 => ?_)
  refine K_callVI (As := []) (k_X12_thrown fu hE ha2 hu75) dL_law_474 v_L_95 ha2 rfl rfl rfl rfl (Nat.le_of_ble_eq_true rfl) ⟨Nat.le_of_ble_eq_true rfl, Nat.le_of_ble_eq_true rfl, by show k + 1 + 0 ≤ 601024; omega, by show n + 6 + 0 ≤ 7293034; omega⟩ ?_
  refine K_iload dL_law_477 rfl ?_
  refine K_icmp_eq (tgt := 484) dL_law_479 (by decide) (fun c80 => ?_) (fun c80 => ?_)
  · refine K_iload dL_law_484 rfl ?_
    refine K_if_ne (tgt := 508) dL_law_486 (by decide) (fun c79 => ?_) (fun c79 => ?_)
    · refine K_goto (tgt := 1518) dL_law_508 (by decide) ?_
      refine K_iinc (v := (x4 + 5)) (ls' := [(0, _), (1, _), (2, _), (3, _), (4, _), (5, _), (6, _)]) dL_law_1518 rfl rfl (by decide) rfl ?_
      refine K_goto (tgt := 23) dL_law_1521 (by decide) ?_
      refine K.keep [0, 1, 2, 3, 4] ?_
      exact hrc (x4 + 5) u75.2 _ _ (by show k + 1 + F ≤ 601024; omega) (by show n + 6 + G ≤ 7293034; omega)
    · refine K_aload_n dL_law_489 rfl rfl ?_
      refine K_iconst (v := 0) dL_law_490 (by decide) ?_
      refine K_lald dL_law_491 ha3 (by decide) ?_
      refine K_iload dL_law_492 rfl ?_
      refine K_if_eq (tgt := 501) dL_law_494 (by decide) (fun c78 => ?_) (fun c78 => ?_)
      · refine K_lconst (v := 0) dL_law_501 rfl ?_
        refine K_lcmp dL_law_502 ?_
        refine K_if_eq (tgt := 508) dL_law_503 (by decide) (fun c76 => ?_) (fun c76 => ?_)
        · refine K_goto (tgt := 1518) dL_law_508 (by decide) ?_
          refine K_iinc (v := (x4 + 5)) (ls' := [(0, _), (1, _), (2, _), (3, _), (4, _), (5, _), (6, _)]) dL_law_1518 rfl rfl (by decide) rfl ?_
          refine K_goto (tgt := 23) dL_law_1521 (by decide) ?_
          refine K.keep [0, 1, 2, 3, 4] ?_
          exact hrc (x4 + 5) u75.2 _ _ (by show k + 1 + F ≤ 601024; omega) (by show n + 6 + G ≤ 7293034; omega)
        · refine K_iconst (v := 0) dL_law_506 (by decide) ?_
          exact K_lawret hQ ht dL_law_507 (by show k + 1 ≤ 601024; omega) (by show n + 6 ≤ 7293034; omega)
      · refine K_lconst (v := 1) dL_law_497 rfl ?_
        refine K_goto (tgt := 502) dL_law_498 (by decide) ?_
        refine K_lcmp dL_law_502 ?_
        refine K_if_eq (tgt := 508) dL_law_503 (by decide) (fun c77 => ?_) (fun c77 => ?_)
        · refine K_goto (tgt := 1518) dL_law_508 (by decide) ?_
          refine K_iinc (v := (x4 + 5)) (ls' := [(0, _), (1, _), (2, _), (3, _), (4, _), (5, _), (6, _)]) dL_law_1518 rfl rfl (by decide) rfl ?_
          refine K_goto (tgt := 23) dL_law_1521 (by decide) ?_
          refine K.keep [0, 1, 2, 3, 4] ?_
          exact hrc (x4 + 5) u75.2 _ _ (by show k + 1 + F ≤ 601024; omega) (by show n + 6 + G ≤ 7293034; omega)
        · refine K_iconst (v := 0) dL_law_506 (by decide) ?_
          exact K_lawret hQ ht dL_law_507 (by show k + 1 ≤ 601024; omega) (by show n + 6 ≤ 7293034; omega)
  · refine K_iconst (v := 0) dL_law_482 (by decide) ?_
    exact K_lawret hQ ht dL_law_483 (by show k + 1 ≤ 601024; omega) (by show n + 6 ≤ 7293034; omega)
def jb_L_law_511 (fu : Nat) (E : Ev) (xs : Nat → Int32) (L a1 a2 a3 : Nat) (rc : Int32 → St → Option (Int32 × St)) (x4 : Int32) (S : St) : Option (Int32 × St) :=
  if inb (x4 + 1) L = true then
    (
    if inb (x4 + 2) L = true then
      (
      (sp_L_join fu E S a1 (xs (x4 + 1).toNatClampNeg) (xs (x4 + 2).toNatClampNeg) a3).bind fun u84 =>
      if inb (x4 + 1) L = true then
        (
        if inb (x4 + 2) L = true then
          (
          (sp_X12_join fu E u84.2 a2 (xs (x4 + 1).toNatClampNeg) (xs (x4 + 2).toNatClampNeg)).bind fun u87 =>
          (sp_X12_thrown fu E u87.2 a2).bind fun u88 =>
          if u88.1 = u84.1 then (
            if u84.1 = 0 then (
              if (lg_cmp (u88.2.2.2.2 a3 (0 : Int32).toNatClampNeg) u87.1.toInt64) = 0 then (
                rc (x4 + 5) u88.2
              ) else (
                some (0, u88.2)
              )
            ) else (
              rc (x4 + 5) u88.2
            )
          ) else (
            some (0, u88.2)
          )
          )
        else none
        )
      else none
      )
    else none
    )
  else none
set_option maxRecDepth 100000 in
theorem kj_L_law_511 {X : Cx} {E : Ev} {t : Int32 × St} {b L a1 a2 a3 : Nat} {xs : Nat → Int32} {rc : Int32 → St → Option (Int32 × St)} (hQ : EndL mL_law X) (ht : t.1 = 1) (hE : WE E) (hs : Scr X b L xs) (ha1 : E.1 a1 = some (0, 9, 0)) (ha2 : E.1 a2 = some (0, 10, 0)) (ha3 : E.1 a3 = some (1, 2, 1)) (fu : Nat) (k n F G : Nat) (hk : k + 8 + F ≤ 601024) (hn : n + 48 + G ≤ 7293034) (hrc : ∀ (x4 : Int32) (S : St) (k1 n1 : Nat), k1 + F ≤ 601024 → n1 + G ≤ 7293034 → K mL_law X E 23 [(0, .ref b), (1, .ref a1), (2, .ref a2), (3, .ref a3), (4, .int x4)] [] S k1 n1 (rc x4 S) t) (x4 : Int32) (S : St) : K mL_law X E 511 [(0, .ref b), (1, .ref a1), (2, .ref a2), (3, .ref a3), (4, .int x4)] [] S k n (jb_L_law_511 fu E xs L a1 a2 a3 rc x4 S) t := by
  unfold jb_L_law_511
  refine K_aload_n dL_law_511 rfl rfl ?_
  refine K_aload_n dL_law_512 rfl rfl ?_
  refine K_iload dL_law_513 rfl ?_
  refine K_iconst (v := 1) dL_law_515 (by decide) ?_
  refine K_iadd dL_law_516 ?_
  refine K_chk (fun h82 => ?_)
  refine K_sld hs dL_law_517 h82 ?_
  refine K_aload_n dL_law_518 rfl rfl ?_
  refine K_iload dL_law_519 rfl ?_
  refine K_iconst (v := 2) dL_law_521 (by decide) ?_
  refine K_iadd dL_law_522 ?_
  refine K_chk (fun h83 => ?_)
  refine K_sld hs dL_law_523 h83 ?_
  refine K_aload_n dL_law_524 rfl rfl ?_
  refine K_bind (fun u84 hu84 => ?_)
  refine K_callSWI (As := [.ref a1, .int (xs (x4 + 1).toNatClampNeg), .int (xs (x4 + 2).toNatClampNeg), .ref a3]) (k_L_join fu hE ha1 ha3 hu84) dL_law_525 w_L_113 rfl rfl (Nat.le_of_ble_eq_true rfl) ⟨Nat.le_of_ble_eq_true rfl, Nat.le_of_ble_eq_true rfl, by show k + 0 + 1 ≤ 601024; omega, by show n + 0 + 6 ≤ 7293034; omega⟩ ?_
  refine K_istore (ls' := [(0, _), (1, _), (2, _), (3, _), (4, _), (5, _)]) dL_law_528 (by decide) rfl ?_
  refine K_aload_n dL_law_530 rfl rfl ?_
  refine K_aload_n dL_law_531 rfl rfl ?_
  refine K_iload dL_law_532 rfl ?_
  refine K_iconst (v := 1) dL_law_534 (by decide) ?_
  refine K_iadd dL_law_535 ?_
  refine K_chk (fun h85 => ?_)
  refine K_sld hs dL_law_536 h85 ?_
  refine K_aload_n dL_law_537 rfl rfl ?_
  refine K_iload dL_law_538 rfl ?_
  refine K_iconst (v := 2) dL_law_540 (by decide) ?_
  refine K_iadd dL_law_541 ?_
  refine K_chk (fun h86 => ?_)
  refine K_sld hs dL_law_542 h86 ?_
  refine K_bind (fun u87 hu87 => ?_)
  refine K_callVI (As := [.int (xs (x4 + 1).toNatClampNeg), .int (xs (x4 + 2).toNatClampNeg)]) (k_X12_join fu hE ha2 hu87) dL_law_543 v_L_115 ha2 rfl rfl rfl rfl (Nat.le_of_ble_eq_true rfl) ⟨Nat.le_of_ble_eq_true rfl, Nat.le_of_ble_eq_true rfl, by show k + 1 + 0 ≤ 601024; omega, by show n + 6 + 0 ≤ 7293034; omega⟩ ?_
  refine K_istore (ls' := [(0, _), (1, _), (2, _), (3, _), (4, _), (5, _), (6, _)]) dL_law_546 (by decide) rfl ?_
  refine K_aload_n dL_law_548 rfl rfl ?_
  refine K_bind (fun u88 hu88 => ?_)
  refine K_callVI (As := []) (k_X12_thrown fu hE ha2 hu88) dL_law_549 v_L_95 ha2 rfl rfl rfl rfl (Nat.le_of_ble_eq_true rfl) ⟨Nat.le_of_ble_eq_true rfl, Nat.le_of_ble_eq_true rfl, by show k + 1 + 0 ≤ 601024; omega, by show n + 6 + 0 ≤ 7293034; omega⟩ ?_
  refine K_iload dL_law_552 rfl ?_
  refine K_icmp_eq (tgt := 559) dL_law_554 (by decide) (fun c91 => ?_) (fun c91 => ?_)
  · refine K_iload dL_law_559 rfl ?_
    refine K_if_ne (tgt := 576) dL_law_561 (by decide) (fun c90 => ?_) (fun c90 => ?_)
    · refine K_goto (tgt := 1518) dL_law_576 (by decide) ?_
      refine K_iinc (v := (x4 + 5)) (ls' := [(0, _), (1, _), (2, _), (3, _), (4, _), (5, _), (6, _)]) dL_law_1518 rfl rfl (by decide) rfl ?_
      refine K_goto (tgt := 23) dL_law_1521 (by decide) ?_
      refine K.keep [0, 1, 2, 3, 4] ?_
      exact hrc (x4 + 5) u88.2 _ _ (by show k + 1 + F ≤ 601024; omega) (by show n + 6 + G ≤ 7293034; omega)
    · refine K_aload_n dL_law_564 rfl rfl ?_
      refine K_iconst (v := 0) dL_law_565 (by decide) ?_
      refine K_lald dL_law_566 ha3 (by decide) ?_
      refine K_iload dL_law_567 rfl ?_
      refine K_i2l dL_law_569 ?_
      refine K_lcmp dL_law_570 ?_
      refine K_if_eq (tgt := 576) dL_law_571 (by decide) (fun c89 => ?_) (fun c89 => ?_)
      · refine K_goto (tgt := 1518) dL_law_576 (by decide) ?_
        refine K_iinc (v := (x4 + 5)) (ls' := [(0, _), (1, _), (2, _), (3, _), (4, _), (5, _), (6, _)]) dL_law_1518 rfl rfl (by decide) rfl ?_
        refine K_goto (tgt := 23) dL_law_1521 (by decide) ?_
        refine K.keep [0, 1, 2, 3, 4] ?_
        exact hrc (x4 + 5) u88.2 _ _ (by show k + 1 + F ≤ 601024; omega) (by show n + 6 + G ≤ 7293034; omega)
      · refine K_iconst (v := 0) dL_law_574 (by decide) ?_
        exact K_lawret hQ ht dL_law_575 (by show k + 1 ≤ 601024; omega) (by show n + 6 ≤ 7293034; omega)
  · refine K_iconst (v := 0) dL_law_557 (by decide) ?_
    exact K_lawret hQ ht dL_law_558 (by show k + 1 ≤ 601024; omega) (by show n + 6 ≤ 7293034; omega)
def jb_L_law_579 (fu : Nat) (E : Ev) (xs : Nat → Int32) (L a1 a2 a3 : Nat) (rc : Int32 → St → Option (Int32 × St)) (x4 : Int32) (S : St) : Option (Int32 × St) :=
  if inb (x4 + 1) L = true then
    (
    if inb (x4 + 2) L = true then
      (
      if inb (x4 + 3) L = true then
        (
        (sp_L_begin fu E S a1 (xs (x4 + 1).toNatClampNeg) (xs (x4 + 2).toNatClampNeg) (xs (x4 + 3).toNatClampNeg) a3).bind fun u96 =>
        if inb (x4 + 1) L = true then
          (
          if inb (x4 + 2) L = true then
            (
            if inb (x4 + 3) L = true then
              (
              (sp_X12_begin fu E u96.2 a2 (xs (x4 + 1).toNatClampNeg) (xs (x4 + 2).toNatClampNeg) (xs (x4 + 3).toNatClampNeg)).bind fun u100 =>
              (sp_X12_thrown fu E u100.2 a2).bind fun u101 =>
              if u101.1 = u96.1 then (
                if u96.1 = 0 then (
                  if (lg_cmp (u101.2.2.2.2 a3 (0 : Int32).toNatClampNeg) u100.1.toInt64) = 0 then (
                    rc (x4 + 5) u101.2
                  ) else (
                    some (0, u101.2)
                  )
                ) else (
                  rc (x4 + 5) u101.2
                )
              ) else (
                some (0, u101.2)
              )
              )
            else none
            )
          else none
          )
        else none
        )
      else none
      )
    else none
    )
  else none
set_option maxRecDepth 100000 in
theorem kj_L_law_579 {X : Cx} {E : Ev} {t : Int32 × St} {b L a1 a2 a3 : Nat} {xs : Nat → Int32} {rc : Int32 → St → Option (Int32 × St)} (hQ : EndL mL_law X) (ht : t.1 = 1) (hE : WE E) (hs : Scr X b L xs) (ha1 : E.1 a1 = some (0, 9, 0)) (ha2 : E.1 a2 = some (0, 10, 0)) (ha3 : E.1 a3 = some (1, 2, 1)) (fu : Nat) (k n F G : Nat) (hk : k + 8 + F ≤ 601024) (hn : n + 48 + G ≤ 7293034) (hrc : ∀ (x4 : Int32) (S : St) (k1 n1 : Nat), k1 + F ≤ 601024 → n1 + G ≤ 7293034 → K mL_law X E 23 [(0, .ref b), (1, .ref a1), (2, .ref a2), (3, .ref a3), (4, .int x4)] [] S k1 n1 (rc x4 S) t) (x4 : Int32) (S : St) : K mL_law X E 579 [(0, .ref b), (1, .ref a1), (2, .ref a2), (3, .ref a3), (4, .int x4)] [] S k n (jb_L_law_579 fu E xs L a1 a2 a3 rc x4 S) t := by
  unfold jb_L_law_579
  refine K_aload_n dL_law_579 rfl rfl ?_
  refine K_aload_n dL_law_580 rfl rfl ?_
  refine K_iload dL_law_581 rfl ?_
  refine K_iconst (v := 1) dL_law_583 (by decide) ?_
  refine K_iadd dL_law_584 ?_
  refine K_chk (fun h93 => ?_)
  refine K_sld hs dL_law_585 h93 ?_
  refine K_aload_n dL_law_586 rfl rfl ?_
  refine K_iload dL_law_587 rfl ?_
  refine K_iconst (v := 2) dL_law_589 (by decide) ?_
  refine K_iadd dL_law_590 ?_
  refine K_chk (fun h94 => ?_)
  refine K_sld hs dL_law_591 h94 ?_
  refine K_aload_n dL_law_592 rfl rfl ?_
  refine K_iload dL_law_593 rfl ?_
  refine K_iconst (v := 3) dL_law_595 (by decide) ?_
  refine K_iadd dL_law_596 ?_
  refine K_chk (fun h95 => ?_)
  refine K_sld hs dL_law_597 h95 ?_
  refine K_aload_n dL_law_598 rfl rfl ?_
  refine K_bind (fun u96 hu96 => ?_)
  refine K_callSWI (As := [.ref a1, .int (xs (x4 + 1).toNatClampNeg), .int (xs (x4 + 2).toNatClampNeg), .int (xs (x4 + 3).toNatClampNeg), .ref a3]) (k_L_begin fu hE ha1 ha3 hu96) dL_law_599 w_L_116 rfl rfl (Nat.le_of_ble_eq_true rfl) ⟨Nat.le_of_ble_eq_true rfl, Nat.le_of_ble_eq_true rfl, by show k + 0 + 1 ≤ 601024; omega, by show n + 0 + 6 ≤ 7293034; omega⟩ ?_
  refine K_istore (ls' := [(0, _), (1, _), (2, _), (3, _), (4, _), (5, _)]) dL_law_602 (by decide) rfl ?_
  refine K_aload_n dL_law_604 rfl rfl ?_
  refine K_aload_n dL_law_605 rfl rfl ?_
  refine K_iload dL_law_606 rfl ?_
  refine K_iconst (v := 1) dL_law_608 (by decide) ?_
  refine K_iadd dL_law_609 ?_
  refine K_chk (fun h97 => ?_)
  refine K_sld hs dL_law_610 h97 ?_
  refine K_aload_n dL_law_611 rfl rfl ?_
  refine K_iload dL_law_612 rfl ?_
  refine K_iconst (v := 2) dL_law_614 (by decide) ?_
  refine K_iadd dL_law_615 ?_
  refine K_chk (fun h98 => ?_)
  refine K_sld hs dL_law_616 h98 ?_
  refine K_aload_n dL_law_617 rfl rfl ?_
  refine K_iload dL_law_618 rfl ?_
  refine K_iconst (v := 3) dL_law_620 (by decide) ?_
  refine K_iadd dL_law_621 ?_
  refine K_chk (fun h99 => ?_)
  refine K_sld hs dL_law_622 h99 ?_
  refine K_bind (fun u100 hu100 => ?_)
  refine K_callVI (As := [.int (xs (x4 + 1).toNatClampNeg), .int (xs (x4 + 2).toNatClampNeg), .int (xs (x4 + 3).toNatClampNeg)]) (k_X12_begin fu hE ha2 hu100) dL_law_623 v_L_118 ha2 rfl rfl rfl rfl (Nat.le_of_ble_eq_true rfl) ⟨Nat.le_of_ble_eq_true rfl, Nat.le_of_ble_eq_true rfl, by show k + 1 + 0 ≤ 601024; omega, by show n + 6 + 0 ≤ 7293034; omega⟩ ?_
  refine K_istore (ls' := [(0, _), (1, _), (2, _), (3, _), (4, _), (5, _), (6, _)]) dL_law_626 (by decide) rfl ?_
  refine K_aload_n dL_law_628 rfl rfl ?_
  refine K_bind (fun u101 hu101 => ?_)
  refine K_callVI (As := []) (k_X12_thrown fu hE ha2 hu101) dL_law_629 v_L_95 ha2 rfl rfl rfl rfl (Nat.le_of_ble_eq_true rfl) ⟨Nat.le_of_ble_eq_true rfl, Nat.le_of_ble_eq_true rfl, by show k + 1 + 0 ≤ 601024; omega, by show n + 6 + 0 ≤ 7293034; omega⟩ ?_
  refine K_iload dL_law_632 rfl ?_
  refine K_icmp_eq (tgt := 639) dL_law_634 (by decide) (fun c104 => ?_) (fun c104 => ?_)
  · refine K_iload dL_law_639 rfl ?_
    refine K_if_ne (tgt := 656) dL_law_641 (by decide) (fun c103 => ?_) (fun c103 => ?_)
    · refine K_goto (tgt := 1518) dL_law_656 (by decide) ?_
      refine K_iinc (v := (x4 + 5)) (ls' := [(0, _), (1, _), (2, _), (3, _), (4, _), (5, _), (6, _)]) dL_law_1518 rfl rfl (by decide) rfl ?_
      refine K_goto (tgt := 23) dL_law_1521 (by decide) ?_
      refine K.keep [0, 1, 2, 3, 4] ?_
      exact hrc (x4 + 5) u101.2 _ _ (by show k + 1 + F ≤ 601024; omega) (by show n + 6 + G ≤ 7293034; omega)
    · refine K_aload_n dL_law_644 rfl rfl ?_
      refine K_iconst (v := 0) dL_law_645 (by decide) ?_
      refine K_lald dL_law_646 ha3 (by decide) ?_
      refine K_iload dL_law_647 rfl ?_
      refine K_i2l dL_law_649 ?_
      refine K_lcmp dL_law_650 ?_
      refine K_if_eq (tgt := 656) dL_law_651 (by decide) (fun c102 => ?_) (fun c102 => ?_)
      · refine K_goto (tgt := 1518) dL_law_656 (by decide) ?_
        refine K_iinc (v := (x4 + 5)) (ls' := [(0, _), (1, _), (2, _), (3, _), (4, _), (5, _), (6, _)]) dL_law_1518 rfl rfl (by decide) rfl ?_
        refine K_goto (tgt := 23) dL_law_1521 (by decide) ?_
        refine K.keep [0, 1, 2, 3, 4] ?_
        exact hrc (x4 + 5) u101.2 _ _ (by show k + 1 + F ≤ 601024; omega) (by show n + 6 + G ≤ 7293034; omega)
      · refine K_iconst (v := 0) dL_law_654 (by decide) ?_
        exact K_lawret hQ ht dL_law_655 (by show k + 1 ≤ 601024; omega) (by show n + 6 ≤ 7293034; omega)
  · refine K_iconst (v := 0) dL_law_637 (by decide) ?_
    exact K_lawret hQ ht dL_law_638 (by show k + 1 ≤ 601024; omega) (by show n + 6 ≤ 7293034; omega)
def jb_L_law_659 (fu : Nat) (E : Ev) (xs : Nat → Int32) (L a1 a2 a3 : Nat) (rc : Int32 → St → Option (Int32 × St)) (x4 : Int32) (S : St) : Option (Int32 × St) :=
  if inb (x4 + 1) L = true then
    (
    if inb (x4 + 2) L = true then
      (
      (sp_L_emit fu E S a1 (xs (x4 + 1).toNatClampNeg) (xs (x4 + 2).toNatClampNeg) a3).bind fun u108 =>
      if inb (x4 + 1) L = true then
        (
        if inb (x4 + 2) L = true then
          (
          (sp_X12_emit fu E u108.2 a2 (xs (x4 + 1).toNatClampNeg) (xs (x4 + 2).toNatClampNeg)).bind fun u111 =>
          (sp_X12_thrown fu E u111.2 a2).bind fun u112 =>
          if u112.1 = u108.1 then (
            if u108.1 = 0 then (
              if (lg_cmp (u112.2.2.2.2 a3 (0 : Int32).toNatClampNeg) u111.1.toInt64) = 0 then (
                rc (x4 + 5) u112.2
              ) else (
                some (0, u112.2)
              )
            ) else (
              rc (x4 + 5) u112.2
            )
          ) else (
            some (0, u112.2)
          )
          )
        else none
        )
      else none
      )
    else none
    )
  else none
set_option maxRecDepth 100000 in
theorem kj_L_law_659 {X : Cx} {E : Ev} {t : Int32 × St} {b L a1 a2 a3 : Nat} {xs : Nat → Int32} {rc : Int32 → St → Option (Int32 × St)} (hQ : EndL mL_law X) (ht : t.1 = 1) (hE : WE E) (hs : Scr X b L xs) (ha1 : E.1 a1 = some (0, 9, 0)) (ha2 : E.1 a2 = some (0, 10, 0)) (ha3 : E.1 a3 = some (1, 2, 1)) (fu : Nat) (k n F G : Nat) (hk : k + 8 + F ≤ 601024) (hn : n + 48 + G ≤ 7293034) (hrc : ∀ (x4 : Int32) (S : St) (k1 n1 : Nat), k1 + F ≤ 601024 → n1 + G ≤ 7293034 → K mL_law X E 23 [(0, .ref b), (1, .ref a1), (2, .ref a2), (3, .ref a3), (4, .int x4)] [] S k1 n1 (rc x4 S) t) (x4 : Int32) (S : St) : K mL_law X E 659 [(0, .ref b), (1, .ref a1), (2, .ref a2), (3, .ref a3), (4, .int x4)] [] S k n (jb_L_law_659 fu E xs L a1 a2 a3 rc x4 S) t := by
  unfold jb_L_law_659
  refine K_aload_n dL_law_659 rfl rfl ?_
  refine K_aload_n dL_law_660 rfl rfl ?_
  refine K_iload dL_law_661 rfl ?_
  refine K_iconst (v := 1) dL_law_663 (by decide) ?_
  refine K_iadd dL_law_664 ?_
  refine K_chk (fun h106 => ?_)
  refine K_sld hs dL_law_665 h106 ?_
  refine K_aload_n dL_law_666 rfl rfl ?_
  refine K_iload dL_law_667 rfl ?_
  refine K_iconst (v := 2) dL_law_669 (by decide) ?_
  refine K_iadd dL_law_670 ?_
  refine K_chk (fun h107 => ?_)
  refine K_sld hs dL_law_671 h107 ?_
  refine K_aload_n dL_law_672 rfl rfl ?_
  refine K_bind (fun u108 hu108 => ?_)
  refine K_callSWI (As := [.ref a1, .int (xs (x4 + 1).toNatClampNeg), .int (xs (x4 + 2).toNatClampNeg), .ref a3]) (k_L_emit fu hE ha1 ha3 hu108) dL_law_673 w_L_119 rfl rfl (Nat.le_of_ble_eq_true rfl) ⟨Nat.le_of_ble_eq_true rfl, Nat.le_of_ble_eq_true rfl, by show k + 0 + 1 ≤ 601024; omega, by show n + 0 + 6 ≤ 7293034; omega⟩ ?_
  refine K_istore (ls' := [(0, _), (1, _), (2, _), (3, _), (4, _), (5, _)]) dL_law_676 (by decide) rfl ?_
  refine K_aload_n dL_law_678 rfl rfl ?_
  refine K_aload_n dL_law_679 rfl rfl ?_
  refine K_iload dL_law_680 rfl ?_
  refine K_iconst (v := 1) dL_law_682 (by decide) ?_
  refine K_iadd dL_law_683 ?_
  refine K_chk (fun h109 => ?_)
  refine K_sld hs dL_law_684 h109 ?_
  refine K_aload_n dL_law_685 rfl rfl ?_
  refine K_iload dL_law_686 rfl ?_
  refine K_iconst (v := 2) dL_law_688 (by decide) ?_
  refine K_iadd dL_law_689 ?_
  refine K_chk (fun h110 => ?_)
  refine K_sld hs dL_law_690 h110 ?_
  refine K_bind (fun u111 hu111 => ?_)
  refine K_callVI (As := [.int (xs (x4 + 1).toNatClampNeg), .int (xs (x4 + 2).toNatClampNeg)]) (k_X12_emit fu hE ha2 hu111) dL_law_691 v_L_121 ha2 rfl rfl rfl rfl (Nat.le_of_ble_eq_true rfl) ⟨Nat.le_of_ble_eq_true rfl, Nat.le_of_ble_eq_true rfl, by show k + 1 + 0 ≤ 601024; omega, by show n + 6 + 0 ≤ 7293034; omega⟩ ?_
  refine K_istore (ls' := [(0, _), (1, _), (2, _), (3, _), (4, _), (5, _), (6, _)]) dL_law_694 (by decide) rfl ?_
  refine K_aload_n dL_law_696 rfl rfl ?_
  refine K_bind (fun u112 hu112 => ?_)
  refine K_callVI (As := []) (k_X12_thrown fu hE ha2 hu112) dL_law_697 v_L_95 ha2 rfl rfl rfl rfl (Nat.le_of_ble_eq_true rfl) ⟨Nat.le_of_ble_eq_true rfl, Nat.le_of_ble_eq_true rfl, by show k + 1 + 0 ≤ 601024; omega, by show n + 6 + 0 ≤ 7293034; omega⟩ ?_
  refine K_iload dL_law_700 rfl ?_
  refine K_icmp_eq (tgt := 707) dL_law_702 (by decide) (fun c115 => ?_) (fun c115 => ?_)
  · refine K_iload dL_law_707 rfl ?_
    refine K_if_ne (tgt := 724) dL_law_709 (by decide) (fun c114 => ?_) (fun c114 => ?_)
    · refine K_goto (tgt := 1518) dL_law_724 (by decide) ?_
      refine K_iinc (v := (x4 + 5)) (ls' := [(0, _), (1, _), (2, _), (3, _), (4, _), (5, _), (6, _)]) dL_law_1518 rfl rfl (by decide) rfl ?_
      refine K_goto (tgt := 23) dL_law_1521 (by decide) ?_
      refine K.keep [0, 1, 2, 3, 4] ?_
      exact hrc (x4 + 5) u112.2 _ _ (by show k + 1 + F ≤ 601024; omega) (by show n + 6 + G ≤ 7293034; omega)
    · refine K_aload_n dL_law_712 rfl rfl ?_
      refine K_iconst (v := 0) dL_law_713 (by decide) ?_
      refine K_lald dL_law_714 ha3 (by decide) ?_
      refine K_iload dL_law_715 rfl ?_
      refine K_i2l dL_law_717 ?_
      refine K_lcmp dL_law_718 ?_
      refine K_if_eq (tgt := 724) dL_law_719 (by decide) (fun c113 => ?_) (fun c113 => ?_)
      · refine K_goto (tgt := 1518) dL_law_724 (by decide) ?_
        refine K_iinc (v := (x4 + 5)) (ls' := [(0, _), (1, _), (2, _), (3, _), (4, _), (5, _), (6, _)]) dL_law_1518 rfl rfl (by decide) rfl ?_
        refine K_goto (tgt := 23) dL_law_1521 (by decide) ?_
        refine K.keep [0, 1, 2, 3, 4] ?_
        exact hrc (x4 + 5) u112.2 _ _ (by show k + 1 + F ≤ 601024; omega) (by show n + 6 + G ≤ 7293034; omega)
      · refine K_iconst (v := 0) dL_law_722 (by decide) ?_
        exact K_lawret hQ ht dL_law_723 (by show k + 1 ≤ 601024; omega) (by show n + 6 ≤ 7293034; omega)
  · refine K_iconst (v := 0) dL_law_705 (by decide) ?_
    exact K_lawret hQ ht dL_law_706 (by show k + 1 ≤ 601024; omega) (by show n + 6 ≤ 7293034; omega)
def jb_L_law_727 (fu : Nat) (E : Ev) (xs : Nat → Int32) (L a1 a2 a3 : Nat) (rc : Int32 → St → Option (Int32 × St)) (x4 : Int32) (S : St) : Option (Int32 × St) :=
  if inb (x4 + 1) L = true then
    (
    if inb (x4 + 2) L = true then
      (
      if inb (x4 + 3) L = true then
        (
        if inb (x4 + 4) L = true then
          (
          (sp_L_addHandler fu E S a1 (xs (x4 + 1).toNatClampNeg) (xs (x4 + 2).toNatClampNeg) (xs (x4 + 3).toNatClampNeg) (xs (x4 + 4).toNatClampNeg) a3).bind fun u121 =>
          if inb (x4 + 1) L = true then
            (
            if inb (x4 + 2) L = true then
              (
              if inb (x4 + 3) L = true then
                (
                if inb (x4 + 4) L = true then
                  (
                  (sp_X12_addHandler fu E u121.2 a2 (xs (x4 + 1).toNatClampNeg) (xs (x4 + 2).toNatClampNeg) (xs (x4 + 3).toNatClampNeg) (xs (x4 + 4).toNatClampNeg)).bind fun u126 =>
                  (sp_X12_thrown fu E u126.2 a2).bind fun u127 =>
                  if u127.1 = u121.1 then (
                    if u121.1 = 0 then (
                      if (lg_cmp (u127.2.2.2.2 a3 (0 : Int32).toNatClampNeg) u126.1.toInt64) = 0 then (
                        rc (x4 + 5) u127.2
                      ) else (
                        some (0, u127.2)
                      )
                    ) else (
                      rc (x4 + 5) u127.2
                    )
                  ) else (
                    some (0, u127.2)
                  )
                  )
                else none
                )
              else none
              )
            else none
            )
          else none
          )
        else none
        )
      else none
      )
    else none
    )
  else none
set_option maxRecDepth 100000 in
theorem kj_L_law_727 {X : Cx} {E : Ev} {t : Int32 × St} {b L a1 a2 a3 : Nat} {xs : Nat → Int32} {rc : Int32 → St → Option (Int32 × St)} (hQ : EndL mL_law X) (ht : t.1 = 1) (hE : WE E) (hs : Scr X b L xs) (ha1 : E.1 a1 = some (0, 9, 0)) (ha2 : E.1 a2 = some (0, 10, 0)) (ha3 : E.1 a3 = some (1, 2, 1)) (fu : Nat) (k n F G : Nat) (hk : k + 8 + F ≤ 601024) (hn : n + 48 + G ≤ 7293034) (hrc : ∀ (x4 : Int32) (S : St) (k1 n1 : Nat), k1 + F ≤ 601024 → n1 + G ≤ 7293034 → K mL_law X E 23 [(0, .ref b), (1, .ref a1), (2, .ref a2), (3, .ref a3), (4, .int x4)] [] S k1 n1 (rc x4 S) t) (x4 : Int32) (S : St) : K mL_law X E 727 [(0, .ref b), (1, .ref a1), (2, .ref a2), (3, .ref a3), (4, .int x4)] [] S k n (jb_L_law_727 fu E xs L a1 a2 a3 rc x4 S) t := by
  unfold jb_L_law_727
  refine K_aload_n dL_law_727 rfl rfl ?_
  refine K_aload_n dL_law_728 rfl rfl ?_
  refine K_iload dL_law_729 rfl ?_
  refine K_iconst (v := 1) dL_law_731 (by decide) ?_
  refine K_iadd dL_law_732 ?_
  refine K_chk (fun h117 => ?_)
  refine K_sld hs dL_law_733 h117 ?_
  refine K_aload_n dL_law_734 rfl rfl ?_
  refine K_iload dL_law_735 rfl ?_
  refine K_iconst (v := 2) dL_law_737 (by decide) ?_
  refine K_iadd dL_law_738 ?_
  refine K_chk (fun h118 => ?_)
  refine K_sld hs dL_law_739 h118 ?_
  refine K_aload_n dL_law_740 rfl rfl ?_
  refine K_iload dL_law_741 rfl ?_
  refine K_iconst (v := 3) dL_law_743 (by decide) ?_
  refine K_iadd dL_law_744 ?_
  refine K_chk (fun h119 => ?_)
  refine K_sld hs dL_law_745 h119 ?_
  refine K_aload_n dL_law_746 rfl rfl ?_
  refine K_iload dL_law_747 rfl ?_
  refine K_iconst (v := 4) dL_law_749 (by decide) ?_
  refine K_iadd dL_law_750 ?_
  refine K_chk (fun h120 => ?_)
  refine K_sld hs dL_law_751 h120 ?_
  refine K_aload_n dL_law_752 rfl rfl ?_
  refine K_bind (fun u121 hu121 => ?_)
  refine K_callSWI (As := [.ref a1, .int (xs (x4 + 1).toNatClampNeg), .int (xs (x4 + 2).toNatClampNeg), .int (xs (x4 + 3).toNatClampNeg), .int (xs (x4 + 4).toNatClampNeg), .ref a3]) (k_L_addHandler fu hE ha1 ha3 hu121) dL_law_753 w_L_122 rfl rfl (Nat.le_of_ble_eq_true rfl) ⟨Nat.le_of_ble_eq_true rfl, Nat.le_of_ble_eq_true rfl, by show k + 0 + 1 ≤ 601024; omega, by show n + 0 + 6 ≤ 7293034; omega⟩ ?_
  refine K_istore (ls' := [(0, _), (1, _), (2, _), (3, _), (4, _), (5, _)]) dL_law_756 (by decide) rfl ?_
  refine K_aload_n dL_law_758 rfl rfl ?_
  refine K_aload_n dL_law_759 rfl rfl ?_
  refine K_iload dL_law_760 rfl ?_
  refine K_iconst (v := 1) dL_law_762 (by decide) ?_
  refine K_iadd dL_law_763 ?_
  refine K_chk (fun h122 => ?_)
  refine K_sld hs dL_law_764 h122 ?_
  refine K_aload_n dL_law_765 rfl rfl ?_
  refine K_iload dL_law_766 rfl ?_
  refine K_iconst (v := 2) dL_law_768 (by decide) ?_
  refine K_iadd dL_law_769 ?_
  refine K_chk (fun h123 => ?_)
  refine K_sld hs dL_law_770 h123 ?_
  refine K_aload_n dL_law_771 rfl rfl ?_
  refine K_iload dL_law_772 rfl ?_
  refine K_iconst (v := 3) dL_law_774 (by decide) ?_
  refine K_iadd dL_law_775 ?_
  refine K_chk (fun h124 => ?_)
  refine K_sld hs dL_law_776 h124 ?_
  refine K_aload_n dL_law_777 rfl rfl ?_
  refine K_iload dL_law_778 rfl ?_
  refine K_iconst (v := 4) dL_law_780 (by decide) ?_
  refine K_iadd dL_law_781 ?_
  refine K_chk (fun h125 => ?_)
  refine K_sld hs dL_law_782 h125 ?_
  refine K_bind (fun u126 hu126 => ?_)
  refine K_callVI (As := [.int (xs (x4 + 1).toNatClampNeg), .int (xs (x4 + 2).toNatClampNeg), .int (xs (x4 + 3).toNatClampNeg), .int (xs (x4 + 4).toNatClampNeg)]) (k_X12_addHandler fu hE ha2 hu126) dL_law_783 v_L_125 ha2 rfl rfl rfl rfl (Nat.le_of_ble_eq_true rfl) ⟨Nat.le_of_ble_eq_true rfl, Nat.le_of_ble_eq_true rfl, by show k + 1 + 0 ≤ 601024; omega, by show n + 6 + 0 ≤ 7293034; omega⟩ ?_
  refine K_istore (ls' := [(0, _), (1, _), (2, _), (3, _), (4, _), (5, _), (6, _)]) dL_law_786 (by decide) rfl ?_
  refine K_aload_n dL_law_788 rfl rfl ?_
  refine K_bind (fun u127 hu127 => ?_)
  refine K_callVI (As := []) (k_X12_thrown fu hE ha2 hu127) dL_law_789 v_L_95 ha2 rfl rfl rfl rfl (Nat.le_of_ble_eq_true rfl) ⟨Nat.le_of_ble_eq_true rfl, Nat.le_of_ble_eq_true rfl, by show k + 1 + 0 ≤ 601024; omega, by show n + 6 + 0 ≤ 7293034; omega⟩ ?_
  refine K_iload dL_law_792 rfl ?_
  refine K_icmp_eq (tgt := 799) dL_law_794 (by decide) (fun c130 => ?_) (fun c130 => ?_)
  · refine K_iload dL_law_799 rfl ?_
    refine K_if_ne (tgt := 816) dL_law_801 (by decide) (fun c129 => ?_) (fun c129 => ?_)
    · refine K_goto (tgt := 1518) dL_law_816 (by decide) ?_
      refine K_iinc (v := (x4 + 5)) (ls' := [(0, _), (1, _), (2, _), (3, _), (4, _), (5, _), (6, _)]) dL_law_1518 rfl rfl (by decide) rfl ?_
      refine K_goto (tgt := 23) dL_law_1521 (by decide) ?_
      refine K.keep [0, 1, 2, 3, 4] ?_
      exact hrc (x4 + 5) u127.2 _ _ (by show k + 1 + F ≤ 601024; omega) (by show n + 6 + G ≤ 7293034; omega)
    · refine K_aload_n dL_law_804 rfl rfl ?_
      refine K_iconst (v := 0) dL_law_805 (by decide) ?_
      refine K_lald dL_law_806 ha3 (by decide) ?_
      refine K_iload dL_law_807 rfl ?_
      refine K_i2l dL_law_809 ?_
      refine K_lcmp dL_law_810 ?_
      refine K_if_eq (tgt := 816) dL_law_811 (by decide) (fun c128 => ?_) (fun c128 => ?_)
      · refine K_goto (tgt := 1518) dL_law_816 (by decide) ?_
        refine K_iinc (v := (x4 + 5)) (ls' := [(0, _), (1, _), (2, _), (3, _), (4, _), (5, _), (6, _)]) dL_law_1518 rfl rfl (by decide) rfl ?_
        refine K_goto (tgt := 23) dL_law_1521 (by decide) ?_
        refine K.keep [0, 1, 2, 3, 4] ?_
        exact hrc (x4 + 5) u127.2 _ _ (by show k + 1 + F ≤ 601024; omega) (by show n + 6 + G ≤ 7293034; omega)
      · refine K_iconst (v := 0) dL_law_814 (by decide) ?_
        exact K_lawret hQ ht dL_law_815 (by show k + 1 ≤ 601024; omega) (by show n + 6 ≤ 7293034; omega)
  · refine K_iconst (v := 0) dL_law_797 (by decide) ?_
    exact K_lawret hQ ht dL_law_798 (by show k + 1 ≤ 601024; omega) (by show n + 6 ≤ 7293034; omega)
def jb_L_law_819 (fu : Nat) (E : Ev) (xs : Nat → Int32) (L a1 a2 a3 : Nat) (rc : Int32 → St → Option (Int32 × St)) (x4 : Int32) (S : St) : Option (Int32 × St) :=
  (sp_X11_instructionCount fu E S a1).bind fun u132 =>
  (sp_X12_instructionCount fu E u132.2 a2).bind fun u133 =>
  if u132.1 = u133.1 then (
    rc (x4 + 5) u133.2
  ) else (
    some (0, u133.2)
  )
set_option maxRecDepth 100000 in
theorem kj_L_law_819 {X : Cx} {E : Ev} {t : Int32 × St} {b L a1 a2 a3 : Nat} {xs : Nat → Int32} {rc : Int32 → St → Option (Int32 × St)} (hQ : EndL mL_law X) (ht : t.1 = 1) (hE : WE E) (hs : Scr X b L xs) (ha1 : E.1 a1 = some (0, 9, 0)) (ha2 : E.1 a2 = some (0, 10, 0)) (ha3 : E.1 a3 = some (1, 2, 1)) (fu : Nat) (k n F G : Nat) (hk : k + 8 + F ≤ 601024) (hn : n + 48 + G ≤ 7293034) (hrc : ∀ (x4 : Int32) (S : St) (k1 n1 : Nat), k1 + F ≤ 601024 → n1 + G ≤ 7293034 → K mL_law X E 23 [(0, .ref b), (1, .ref a1), (2, .ref a2), (3, .ref a3), (4, .int x4)] [] S k1 n1 (rc x4 S) t) (x4 : Int32) (S : St) : K mL_law X E 819 [(0, .ref b), (1, .ref a1), (2, .ref a2), (3, .ref a3), (4, .int x4)] [] S k n (jb_L_law_819 fu E xs L a1 a2 a3 rc x4 S) t := by
  unfold jb_L_law_819
  refine K_aload_n dL_law_819 rfl rfl ?_
  refine K_bind (fun u132 hu132 => ?_)
  refine K_callVI (As := []) (k_X11_instructionCount fu hE ha1 hu132) dL_law_820 v_L_126 ha1 rfl rfl rfl rfl (Nat.le_of_ble_eq_true rfl) ⟨Nat.le_of_ble_eq_true rfl, Nat.le_of_ble_eq_true rfl, by show k + 0 + 0 ≤ 601024; omega, by show n + 0 + 0 ≤ 7293034; omega⟩ ?_
  refine K_aload_n dL_law_823 rfl rfl ?_
  refine K_bind (fun u133 hu133 => ?_)
  refine K_callVI (As := []) (k_X12_instructionCount fu hE ha2 hu133) dL_law_824 v_L_129 ha2 rfl rfl rfl rfl (Nat.le_of_ble_eq_true rfl) ⟨Nat.le_of_ble_eq_true rfl, Nat.le_of_ble_eq_true rfl, by show k + 0 + 0 ≤ 601024; omega, by show n + 0 + 0 ≤ 7293034; omega⟩ ?_
  refine K_icmp_eq (tgt := 1518) dL_law_827 (by decide) (fun c134 => ?_) (fun c134 => ?_)
  · refine K_iinc (v := (x4 + 5)) (ls' := [(0, _), (1, _), (2, _), (3, _), (4, _)]) dL_law_1518 rfl rfl (by decide) rfl ?_
    refine K_goto (tgt := 23) dL_law_1521 (by decide) ?_
    refine K.keep [0, 1, 2, 3, 4] ?_
    exact hrc (x4 + 5) u133.2 _ _ (by show k + 0 + F ≤ 601024; omega) (by show n + 0 + G ≤ 7293034; omega)
  · refine K_iconst (v := 0) dL_law_830 (by decide) ?_
    exact K_lawret hQ ht dL_law_831 (by show k + 0 ≤ 601024; omega) (by show n + 0 ≤ 7293034; omega)
def jb_L_law_832 (fu : Nat) (E : Ev) (xs : Nat → Int32) (L a1 a2 a3 : Nat) (rc : Int32 → St → Option (Int32 × St)) (x4 : Int32) (S : St) : Option (Int32 × St) :=
  if inb (x4 + 1) L = true then
    (
    (sp_L_pushLocal fu E S a1 (xs (x4 + 1).toNatClampNeg) a3).bind fun u137 =>
    if inb (x4 + 1) L = true then
      (
      (sp_X12_pushLocal fu E u137.2 a2 (xs (x4 + 1).toNatClampNeg)).bind fun u139 =>
      (sp_X12_thrown fu E u139.2 a2).bind fun u140 =>
      if u140.1 = u137.1 then (
        if u137.1 = 0 then (
          if (lg_cmp (u140.2.2.2.2 a3 (0 : Int32).toNatClampNeg) u139.1.toInt64) = 0 then (
            rc (x4 + 5) u140.2
          ) else (
            some (0, u140.2)
          )
        ) else (
          rc (x4 + 5) u140.2
        )
      ) else (
        some (0, u140.2)
      )
      )
    else none
    )
  else none
set_option maxRecDepth 100000 in
theorem kj_L_law_832 {X : Cx} {E : Ev} {t : Int32 × St} {b L a1 a2 a3 : Nat} {xs : Nat → Int32} {rc : Int32 → St → Option (Int32 × St)} (hQ : EndL mL_law X) (ht : t.1 = 1) (hE : WE E) (hs : Scr X b L xs) (ha1 : E.1 a1 = some (0, 9, 0)) (ha2 : E.1 a2 = some (0, 10, 0)) (ha3 : E.1 a3 = some (1, 2, 1)) (fu : Nat) (k n F G : Nat) (hk : k + 8 + F ≤ 601024) (hn : n + 48 + G ≤ 7293034) (hrc : ∀ (x4 : Int32) (S : St) (k1 n1 : Nat), k1 + F ≤ 601024 → n1 + G ≤ 7293034 → K mL_law X E 23 [(0, .ref b), (1, .ref a1), (2, .ref a2), (3, .ref a3), (4, .int x4)] [] S k1 n1 (rc x4 S) t) (x4 : Int32) (S : St) : K mL_law X E 832 [(0, .ref b), (1, .ref a1), (2, .ref a2), (3, .ref a3), (4, .int x4)] [] S k n (jb_L_law_832 fu E xs L a1 a2 a3 rc x4 S) t := by
  unfold jb_L_law_832
  refine K_aload_n dL_law_832 rfl rfl ?_
  refine K_aload_n dL_law_833 rfl rfl ?_
  refine K_iload dL_law_834 rfl ?_
  refine K_iconst (v := 1) dL_law_836 (by decide) ?_
  refine K_iadd dL_law_837 ?_
  refine K_chk (fun h136 => ?_)
  refine K_sld hs dL_law_838 h136 ?_
  refine K_aload_n dL_law_839 rfl rfl ?_
  refine K_bind (fun u137 hu137 => ?_)
  refine K_callSWI (As := [.ref a1, .int (xs (x4 + 1).toNatClampNeg), .ref a3]) (k_L_pushLocal fu hE ha1 ha3 hu137) dL_law_840 w_L_130 rfl rfl (Nat.le_of_ble_eq_true rfl) ⟨Nat.le_of_ble_eq_true rfl, Nat.le_of_ble_eq_true rfl, by show k + 0 + 1 ≤ 601024; omega, by show n + 0 + 6 ≤ 7293034; omega⟩ ?_
  refine K_istore (ls' := [(0, _), (1, _), (2, _), (3, _), (4, _), (5, _)]) dL_law_843 (by decide) rfl ?_
  refine K_aload_n dL_law_845 rfl rfl ?_
  refine K_aload_n dL_law_846 rfl rfl ?_
  refine K_iload dL_law_847 rfl ?_
  refine K_iconst (v := 1) dL_law_849 (by decide) ?_
  refine K_iadd dL_law_850 ?_
  refine K_chk (fun h138 => ?_)
  refine K_sld hs dL_law_851 h138 ?_
  refine K_bind (fun u139 hu139 => ?_)
  refine K_callVI (As := [.int (xs (x4 + 1).toNatClampNeg)]) (k_X12_pushLocal fu hE ha2 hu139) dL_law_852 v_L_132 ha2 rfl rfl rfl rfl (Nat.le_of_ble_eq_true rfl) ⟨Nat.le_of_ble_eq_true rfl, Nat.le_of_ble_eq_true rfl, by show k + 1 + 0 ≤ 601024; omega, by show n + 6 + 0 ≤ 7293034; omega⟩ ?_
  refine K_istore (ls' := [(0, _), (1, _), (2, _), (3, _), (4, _), (5, _), (6, _)]) dL_law_855 (by decide) rfl ?_
  refine K_aload_n dL_law_857 rfl rfl ?_
  refine K_bind (fun u140 hu140 => ?_)
  refine K_callVI (As := []) (k_X12_thrown fu hE ha2 hu140) dL_law_858 v_L_95 ha2 rfl rfl rfl rfl (Nat.le_of_ble_eq_true rfl) ⟨Nat.le_of_ble_eq_true rfl, Nat.le_of_ble_eq_true rfl, by show k + 1 + 0 ≤ 601024; omega, by show n + 6 + 0 ≤ 7293034; omega⟩ ?_
  refine K_iload dL_law_861 rfl ?_
  refine K_icmp_eq (tgt := 868) dL_law_863 (by decide) (fun c143 => ?_) (fun c143 => ?_)
  · refine K_iload dL_law_868 rfl ?_
    refine K_if_ne (tgt := 885) dL_law_870 (by decide) (fun c142 => ?_) (fun c142 => ?_)
    · refine K_goto (tgt := 1518) dL_law_885 (by decide) ?_
      refine K_iinc (v := (x4 + 5)) (ls' := [(0, _), (1, _), (2, _), (3, _), (4, _), (5, _), (6, _)]) dL_law_1518 rfl rfl (by decide) rfl ?_
      refine K_goto (tgt := 23) dL_law_1521 (by decide) ?_
      refine K.keep [0, 1, 2, 3, 4] ?_
      exact hrc (x4 + 5) u140.2 _ _ (by show k + 1 + F ≤ 601024; omega) (by show n + 6 + G ≤ 7293034; omega)
    · refine K_aload_n dL_law_873 rfl rfl ?_
      refine K_iconst (v := 0) dL_law_874 (by decide) ?_
      refine K_lald dL_law_875 ha3 (by decide) ?_
      refine K_iload dL_law_876 rfl ?_
      refine K_i2l dL_law_878 ?_
      refine K_lcmp dL_law_879 ?_
      refine K_if_eq (tgt := 885) dL_law_880 (by decide) (fun c141 => ?_) (fun c141 => ?_)
      · refine K_goto (tgt := 1518) dL_law_885 (by decide) ?_
        refine K_iinc (v := (x4 + 5)) (ls' := [(0, _), (1, _), (2, _), (3, _), (4, _), (5, _), (6, _)]) dL_law_1518 rfl rfl (by decide) rfl ?_
        refine K_goto (tgt := 23) dL_law_1521 (by decide) ?_
        refine K.keep [0, 1, 2, 3, 4] ?_
        exact hrc (x4 + 5) u140.2 _ _ (by show k + 1 + F ≤ 601024; omega) (by show n + 6 + G ≤ 7293034; omega)
      · refine K_iconst (v := 0) dL_law_883 (by decide) ?_
        exact K_lawret hQ ht dL_law_884 (by show k + 1 ≤ 601024; omega) (by show n + 6 ≤ 7293034; omega)
  · refine K_iconst (v := 0) dL_law_866 (by decide) ?_
    exact K_lawret hQ ht dL_law_867 (by show k + 1 ≤ 601024; omega) (by show n + 6 ≤ 7293034; omega)
def jb_L_law_888 (fu : Nat) (E : Ev) (xs : Nat → Int32) (L a1 a2 a3 : Nat) (rc : Int32 → St → Option (Int32 × St)) (x4 : Int32) (S : St) : Option (Int32 × St) :=
  if inb (x4 + 1) L = true then
    (
    (sp_L_pushStack fu E S a1 (xs (x4 + 1).toNatClampNeg) a3).bind fun u146 =>
    if inb (x4 + 1) L = true then
      (
      (sp_X12_pushStack fu E u146.2 a2 (xs (x4 + 1).toNatClampNeg)).bind fun u148 =>
      (sp_X12_thrown fu E u148.2 a2).bind fun u149 =>
      if u149.1 = u146.1 then (
        if u146.1 = 0 then (
          if (lg_cmp (u149.2.2.2.2 a3 (0 : Int32).toNatClampNeg) u148.1.toInt64) = 0 then (
            rc (x4 + 5) u149.2
          ) else (
            some (0, u149.2)
          )
        ) else (
          rc (x4 + 5) u149.2
        )
      ) else (
        some (0, u149.2)
      )
      )
    else none
    )
  else none
set_option maxRecDepth 100000 in
theorem kj_L_law_888 {X : Cx} {E : Ev} {t : Int32 × St} {b L a1 a2 a3 : Nat} {xs : Nat → Int32} {rc : Int32 → St → Option (Int32 × St)} (hQ : EndL mL_law X) (ht : t.1 = 1) (hE : WE E) (hs : Scr X b L xs) (ha1 : E.1 a1 = some (0, 9, 0)) (ha2 : E.1 a2 = some (0, 10, 0)) (ha3 : E.1 a3 = some (1, 2, 1)) (fu : Nat) (k n F G : Nat) (hk : k + 8 + F ≤ 601024) (hn : n + 48 + G ≤ 7293034) (hrc : ∀ (x4 : Int32) (S : St) (k1 n1 : Nat), k1 + F ≤ 601024 → n1 + G ≤ 7293034 → K mL_law X E 23 [(0, .ref b), (1, .ref a1), (2, .ref a2), (3, .ref a3), (4, .int x4)] [] S k1 n1 (rc x4 S) t) (x4 : Int32) (S : St) : K mL_law X E 888 [(0, .ref b), (1, .ref a1), (2, .ref a2), (3, .ref a3), (4, .int x4)] [] S k n (jb_L_law_888 fu E xs L a1 a2 a3 rc x4 S) t := by
  unfold jb_L_law_888
  refine K_aload_n dL_law_888 rfl rfl ?_
  refine K_aload_n dL_law_889 rfl rfl ?_
  refine K_iload dL_law_890 rfl ?_
  refine K_iconst (v := 1) dL_law_892 (by decide) ?_
  refine K_iadd dL_law_893 ?_
  refine K_chk (fun h145 => ?_)
  refine K_sld hs dL_law_894 h145 ?_
  refine K_aload_n dL_law_895 rfl rfl ?_
  refine K_bind (fun u146 hu146 => ?_)
  refine K_callSWI (As := [.ref a1, .int (xs (x4 + 1).toNatClampNeg), .ref a3]) (k_L_pushStack fu hE ha1 ha3 hu146) dL_law_896 w_L_133 rfl rfl (Nat.le_of_ble_eq_true rfl) ⟨Nat.le_of_ble_eq_true rfl, Nat.le_of_ble_eq_true rfl, by show k + 0 + 1 ≤ 601024; omega, by show n + 0 + 6 ≤ 7293034; omega⟩ ?_
  refine K_istore (ls' := [(0, _), (1, _), (2, _), (3, _), (4, _), (5, _)]) dL_law_899 (by decide) rfl ?_
  refine K_aload_n dL_law_901 rfl rfl ?_
  refine K_aload_n dL_law_902 rfl rfl ?_
  refine K_iload dL_law_903 rfl ?_
  refine K_iconst (v := 1) dL_law_905 (by decide) ?_
  refine K_iadd dL_law_906 ?_
  refine K_chk (fun h147 => ?_)
  refine K_sld hs dL_law_907 h147 ?_
  refine K_bind (fun u148 hu148 => ?_)
  refine K_callVI (As := [.int (xs (x4 + 1).toNatClampNeg)]) (k_X12_pushStack fu hE ha2 hu148) dL_law_908 v_L_135 ha2 rfl rfl rfl rfl (Nat.le_of_ble_eq_true rfl) ⟨Nat.le_of_ble_eq_true rfl, Nat.le_of_ble_eq_true rfl, by show k + 1 + 0 ≤ 601024; omega, by show n + 6 + 0 ≤ 7293034; omega⟩ ?_
  refine K_istore (ls' := [(0, _), (1, _), (2, _), (3, _), (4, _), (5, _), (6, _)]) dL_law_911 (by decide) rfl ?_
  refine K_aload_n dL_law_913 rfl rfl ?_
  refine K_bind (fun u149 hu149 => ?_)
  refine K_callVI (As := []) (k_X12_thrown fu hE ha2 hu149) dL_law_914 v_L_95 ha2 rfl rfl rfl rfl (Nat.le_of_ble_eq_true rfl) ⟨Nat.le_of_ble_eq_true rfl, Nat.le_of_ble_eq_true rfl, by show k + 1 + 0 ≤ 601024; omega, by show n + 6 + 0 ≤ 7293034; omega⟩ ?_
  refine K_iload dL_law_917 rfl ?_
  refine K_icmp_eq (tgt := 924) dL_law_919 (by decide) (fun c152 => ?_) (fun c152 => ?_)
  · refine K_iload dL_law_924 rfl ?_
    refine K_if_ne (tgt := 941) dL_law_926 (by decide) (fun c151 => ?_) (fun c151 => ?_)
    · refine K_goto (tgt := 1518) dL_law_941 (by decide) ?_
      refine K_iinc (v := (x4 + 5)) (ls' := [(0, _), (1, _), (2, _), (3, _), (4, _), (5, _), (6, _)]) dL_law_1518 rfl rfl (by decide) rfl ?_
      refine K_goto (tgt := 23) dL_law_1521 (by decide) ?_
      refine K.keep [0, 1, 2, 3, 4] ?_
      exact hrc (x4 + 5) u149.2 _ _ (by show k + 1 + F ≤ 601024; omega) (by show n + 6 + G ≤ 7293034; omega)
    · refine K_aload_n dL_law_929 rfl rfl ?_
      refine K_iconst (v := 0) dL_law_930 (by decide) ?_
      refine K_lald dL_law_931 ha3 (by decide) ?_
      refine K_iload dL_law_932 rfl ?_
      refine K_i2l dL_law_934 ?_
      refine K_lcmp dL_law_935 ?_
      refine K_if_eq (tgt := 941) dL_law_936 (by decide) (fun c150 => ?_) (fun c150 => ?_)
      · refine K_goto (tgt := 1518) dL_law_941 (by decide) ?_
        refine K_iinc (v := (x4 + 5)) (ls' := [(0, _), (1, _), (2, _), (3, _), (4, _), (5, _), (6, _)]) dL_law_1518 rfl rfl (by decide) rfl ?_
        refine K_goto (tgt := 23) dL_law_1521 (by decide) ?_
        refine K.keep [0, 1, 2, 3, 4] ?_
        exact hrc (x4 + 5) u149.2 _ _ (by show k + 1 + F ≤ 601024; omega) (by show n + 6 + G ≤ 7293034; omega)
      · refine K_iconst (v := 0) dL_law_939 (by decide) ?_
        exact K_lawret hQ ht dL_law_940 (by show k + 1 ≤ 601024; omega) (by show n + 6 ≤ 7293034; omega)
  · refine K_iconst (v := 0) dL_law_922 (by decide) ?_
    exact K_lawret hQ ht dL_law_923 (by show k + 1 ≤ 601024; omega) (by show n + 6 ≤ 7293034; omega)
def jb_L_law_944 (fu : Nat) (E : Ev) (xs : Nat → Int32) (L a1 a2 a3 : Nat) (rc : Int32 → St → Option (Int32 × St)) (x4 : Int32) (S : St) : Option (Int32 × St) :=
  if inb (x4 + 1) L = true then
    (
    if inb (x4 + 2) L = true then
      (
      if (xs (x4 + 2).toNatClampNeg) = 0 then (
        (sp_L_declareFrame fu E S a1 (xs (x4 + 1).toNatClampNeg) 0 a3).bind fun u156 =>
        if inb (x4 + 1) L = true then
          (
          if inb (x4 + 2) L = true then
            (
            if (xs (x4 + 2).toNatClampNeg) = 0 then (
              (sp_X12_declareFrame fu E u156.2 a2 (xs (x4 + 1).toNatClampNeg) 0).bind fun u159 =>
              (sp_X12_thrown fu E u159.2 a2).bind fun u160 =>
              if u160.1 = u156.1 then (
                if u156.1 = 0 then (
                  if (lg_cmp (u160.2.2.2.2 a3 (0 : Int32).toNatClampNeg) u159.1.toInt64) = 0 then (
                    rc (x4 + 5) u160.2
                  ) else (
                    some (0, u160.2)
                  )
                ) else (
                  rc (x4 + 5) u160.2
                )
              ) else (
                some (0, u160.2)
              )
            ) else (
              (sp_X12_declareFrame fu E u156.2 a2 (xs (x4 + 1).toNatClampNeg) 1).bind fun u164 =>
              (sp_X12_thrown fu E u164.2 a2).bind fun u165 =>
              if u165.1 = u156.1 then (
                if u156.1 = 0 then (
                  if (lg_cmp (u165.2.2.2.2 a3 (0 : Int32).toNatClampNeg) u164.1.toInt64) = 0 then (
                    rc (x4 + 5) u165.2
                  ) else (
                    some (0, u165.2)
                  )
                ) else (
                  rc (x4 + 5) u165.2
                )
              ) else (
                some (0, u165.2)
              )
            )
            )
          else none
          )
        else none
      ) else (
        (sp_L_declareFrame fu E S a1 (xs (x4 + 1).toNatClampNeg) 1 a3).bind fun u170 =>
        if inb (x4 + 1) L = true then
          (
          if inb (x4 + 2) L = true then
            (
            if (xs (x4 + 2).toNatClampNeg) = 0 then (
              (sp_X12_declareFrame fu E u170.2 a2 (xs (x4 + 1).toNatClampNeg) 0).bind fun u173 =>
              (sp_X12_thrown fu E u173.2 a2).bind fun u174 =>
              if u174.1 = u170.1 then (
                if u170.1 = 0 then (
                  if (lg_cmp (u174.2.2.2.2 a3 (0 : Int32).toNatClampNeg) u173.1.toInt64) = 0 then (
                    rc (x4 + 5) u174.2
                  ) else (
                    some (0, u174.2)
                  )
                ) else (
                  rc (x4 + 5) u174.2
                )
              ) else (
                some (0, u174.2)
              )
            ) else (
              (sp_X12_declareFrame fu E u170.2 a2 (xs (x4 + 1).toNatClampNeg) 1).bind fun u178 =>
              (sp_X12_thrown fu E u178.2 a2).bind fun u179 =>
              if u179.1 = u170.1 then (
                if u170.1 = 0 then (
                  if (lg_cmp (u179.2.2.2.2 a3 (0 : Int32).toNatClampNeg) u178.1.toInt64) = 0 then (
                    rc (x4 + 5) u179.2
                  ) else (
                    some (0, u179.2)
                  )
                ) else (
                  rc (x4 + 5) u179.2
                )
              ) else (
                some (0, u179.2)
              )
            )
            )
          else none
          )
        else none
      )
      )
    else none
    )
  else none
set_option maxRecDepth 100000 in
theorem kj_L_law_944 {X : Cx} {E : Ev} {t : Int32 × St} {b L a1 a2 a3 : Nat} {xs : Nat → Int32} {rc : Int32 → St → Option (Int32 × St)} (hQ : EndL mL_law X) (ht : t.1 = 1) (hE : WE E) (hs : Scr X b L xs) (ha1 : E.1 a1 = some (0, 9, 0)) (ha2 : E.1 a2 = some (0, 10, 0)) (ha3 : E.1 a3 = some (1, 2, 1)) (fu : Nat) (k n F G : Nat) (hk : k + 8 + F ≤ 601024) (hn : n + 48 + G ≤ 7293034) (hrc : ∀ (x4 : Int32) (S : St) (k1 n1 : Nat), k1 + F ≤ 601024 → n1 + G ≤ 7293034 → K mL_law X E 23 [(0, .ref b), (1, .ref a1), (2, .ref a2), (3, .ref a3), (4, .int x4)] [] S k1 n1 (rc x4 S) t) (x4 : Int32) (S : St) : K mL_law X E 944 [(0, .ref b), (1, .ref a1), (2, .ref a2), (3, .ref a3), (4, .int x4)] [] S k n (jb_L_law_944 fu E xs L a1 a2 a3 rc x4 S) t := by
  unfold jb_L_law_944
  refine K_aload_n dL_law_944 rfl rfl ?_
  refine K_aload_n dL_law_945 rfl rfl ?_
  refine K_iload dL_law_946 rfl ?_
  refine K_iconst (v := 1) dL_law_948 (by decide) ?_
  refine K_iadd dL_law_949 ?_
  refine K_chk (fun h154 => ?_)
  refine K_sld hs dL_law_950 h154 ?_
  refine K_aload_n dL_law_951 rfl rfl ?_
  refine K_iload dL_law_952 rfl ?_
  refine K_iconst (v := 2) dL_law_954 (by decide) ?_
  refine K_iadd dL_law_955 ?_
  refine K_chk (fun h155 => ?_)
  refine K_sld hs dL_law_956 h155 ?_
  refine K_if_eq (tgt := 964) dL_law_957 (by decide) (fun c184 => ?_) (fun c184 => ?_)
  · refine K_iconst (v := 0) dL_law_964 (by decide) ?_
    refine K_aload_n dL_law_965 rfl rfl ?_
    refine K_bind (fun u156 hu156 => ?_)
    refine K_callSWI (As := [.ref a1, .int (xs (x4 + 1).toNatClampNeg), .int 0, .ref a3]) (k_L_declareFrame fu hE ha1 ha3 hu156) dL_law_966 w_L_136 rfl rfl (Nat.le_of_ble_eq_true rfl) ⟨Nat.le_of_ble_eq_true rfl, Nat.le_of_ble_eq_true rfl, by show k + 0 + 1 ≤ 601024; omega, by show n + 0 + 6 ≤ 7293034; omega⟩ ?_
    refine K_istore (ls' := [(0, _), (1, _), (2, _), (3, _), (4, _), (5, _)]) dL_law_969 (by decide) rfl ?_
    refine K_aload_n dL_law_971 rfl rfl ?_
    refine K_aload_n dL_law_972 rfl rfl ?_
    refine K_iload dL_law_973 rfl ?_
    refine K_iconst (v := 1) dL_law_975 (by decide) ?_
    refine K_iadd dL_law_976 ?_
    refine K_chk (fun h157 => ?_)
    refine K_sld hs dL_law_977 h157 ?_
    refine K_aload_n dL_law_978 rfl rfl ?_
    refine K_iload dL_law_979 rfl ?_
    refine K_iconst (v := 2) dL_law_981 (by decide) ?_
    refine K_iadd dL_law_982 ?_
    refine K_chk (fun h158 => ?_)
    refine K_sld hs dL_law_983 h158 ?_
    refine K_if_eq (tgt := 991) dL_law_984 (by decide) (fun c169 => ?_) (fun c169 => ?_)
    · refine K_iconst (v := 0) dL_law_991 (by decide) ?_
      refine K_bind (fun u159 hu159 => ?_)
      refine K_callVI (As := [.int (xs (x4 + 1).toNatClampNeg), .int 0]) (k_X12_declareFrame fu hE ha2 hu159) dL_law_992 v_L_138 ha2 rfl rfl rfl rfl (Nat.le_of_ble_eq_true rfl) ⟨Nat.le_of_ble_eq_true rfl, Nat.le_of_ble_eq_true rfl, by show k + 1 + 0 ≤ 601024; omega, by show n + 6 + 0 ≤ 7293034; omega⟩ ?_
      refine K_istore (ls' := [(0, _), (1, _), (2, _), (3, _), (4, _), (5, _), (6, _)]) dL_law_995 (by decide) rfl ?_
      refine K_aload_n dL_law_997 rfl rfl ?_
      refine K_bind (fun u160 hu160 => ?_)
      refine K_callVI (As := []) (k_X12_thrown fu hE ha2 hu160) dL_law_998 v_L_95 ha2 rfl rfl rfl rfl (Nat.le_of_ble_eq_true rfl) ⟨Nat.le_of_ble_eq_true rfl, Nat.le_of_ble_eq_true rfl, by show k + 1 + 0 ≤ 601024; omega, by show n + 6 + 0 ≤ 7293034; omega⟩ ?_
      refine K_iload dL_law_1001 rfl ?_
      refine K_icmp_eq (tgt := 1008) dL_law_1003 (by decide) (fun c163 => ?_) (fun c163 => ?_)
      · refine K_iload dL_law_1008 rfl ?_
        refine K_if_ne (tgt := 1025) dL_law_1010 (by decide) (fun c162 => ?_) (fun c162 => ?_)
        · refine K_goto (tgt := 1518) dL_law_1025 (by decide) ?_
          refine K_iinc (v := (x4 + 5)) (ls' := [(0, _), (1, _), (2, _), (3, _), (4, _), (5, _), (6, _)]) dL_law_1518 rfl rfl (by decide) rfl ?_
          refine K_goto (tgt := 23) dL_law_1521 (by decide) ?_
          refine K.keep [0, 1, 2, 3, 4] ?_
          exact hrc (x4 + 5) u160.2 _ _ (by show k + 1 + F ≤ 601024; omega) (by show n + 6 + G ≤ 7293034; omega)
        · refine K_aload_n dL_law_1013 rfl rfl ?_
          refine K_iconst (v := 0) dL_law_1014 (by decide) ?_
          refine K_lald dL_law_1015 ha3 (by decide) ?_
          refine K_iload dL_law_1016 rfl ?_
          refine K_i2l dL_law_1018 ?_
          refine K_lcmp dL_law_1019 ?_
          refine K_if_eq (tgt := 1025) dL_law_1020 (by decide) (fun c161 => ?_) (fun c161 => ?_)
          · refine K_goto (tgt := 1518) dL_law_1025 (by decide) ?_
            refine K_iinc (v := (x4 + 5)) (ls' := [(0, _), (1, _), (2, _), (3, _), (4, _), (5, _), (6, _)]) dL_law_1518 rfl rfl (by decide) rfl ?_
            refine K_goto (tgt := 23) dL_law_1521 (by decide) ?_
            refine K.keep [0, 1, 2, 3, 4] ?_
            exact hrc (x4 + 5) u160.2 _ _ (by show k + 1 + F ≤ 601024; omega) (by show n + 6 + G ≤ 7293034; omega)
          · refine K_iconst (v := 0) dL_law_1023 (by decide) ?_
            exact K_lawret hQ ht dL_law_1024 (by show k + 1 ≤ 601024; omega) (by show n + 6 ≤ 7293034; omega)
      · refine K_iconst (v := 0) dL_law_1006 (by decide) ?_
        exact K_lawret hQ ht dL_law_1007 (by show k + 1 ≤ 601024; omega) (by show n + 6 ≤ 7293034; omega)
    · refine K_iconst (v := 1) dL_law_987 (by decide) ?_
      refine K_goto (tgt := 992) dL_law_988 (by decide) ?_
      refine K_bind (fun u164 hu164 => ?_)
      refine K_callVI (As := [.int (xs (x4 + 1).toNatClampNeg), .int 1]) (k_X12_declareFrame fu hE ha2 hu164) dL_law_992 v_L_138 ha2 rfl rfl rfl rfl (Nat.le_of_ble_eq_true rfl) ⟨Nat.le_of_ble_eq_true rfl, Nat.le_of_ble_eq_true rfl, by show k + 1 + 0 ≤ 601024; omega, by show n + 6 + 0 ≤ 7293034; omega⟩ ?_
      refine K_istore (ls' := [(0, _), (1, _), (2, _), (3, _), (4, _), (5, _), (6, _)]) dL_law_995 (by decide) rfl ?_
      refine K_aload_n dL_law_997 rfl rfl ?_
      refine K_bind (fun u165 hu165 => ?_)
      refine K_callVI (As := []) (k_X12_thrown fu hE ha2 hu165) dL_law_998 v_L_95 ha2 rfl rfl rfl rfl (Nat.le_of_ble_eq_true rfl) ⟨Nat.le_of_ble_eq_true rfl, Nat.le_of_ble_eq_true rfl, by show k + 1 + 0 ≤ 601024; omega, by show n + 6 + 0 ≤ 7293034; omega⟩ ?_
      refine K_iload dL_law_1001 rfl ?_
      refine K_icmp_eq (tgt := 1008) dL_law_1003 (by decide) (fun c168 => ?_) (fun c168 => ?_)
      · refine K_iload dL_law_1008 rfl ?_
        refine K_if_ne (tgt := 1025) dL_law_1010 (by decide) (fun c167 => ?_) (fun c167 => ?_)
        · refine K_goto (tgt := 1518) dL_law_1025 (by decide) ?_
          refine K_iinc (v := (x4 + 5)) (ls' := [(0, _), (1, _), (2, _), (3, _), (4, _), (5, _), (6, _)]) dL_law_1518 rfl rfl (by decide) rfl ?_
          refine K_goto (tgt := 23) dL_law_1521 (by decide) ?_
          refine K.keep [0, 1, 2, 3, 4] ?_
          exact hrc (x4 + 5) u165.2 _ _ (by show k + 1 + F ≤ 601024; omega) (by show n + 6 + G ≤ 7293034; omega)
        · refine K_aload_n dL_law_1013 rfl rfl ?_
          refine K_iconst (v := 0) dL_law_1014 (by decide) ?_
          refine K_lald dL_law_1015 ha3 (by decide) ?_
          refine K_iload dL_law_1016 rfl ?_
          refine K_i2l dL_law_1018 ?_
          refine K_lcmp dL_law_1019 ?_
          refine K_if_eq (tgt := 1025) dL_law_1020 (by decide) (fun c166 => ?_) (fun c166 => ?_)
          · refine K_goto (tgt := 1518) dL_law_1025 (by decide) ?_
            refine K_iinc (v := (x4 + 5)) (ls' := [(0, _), (1, _), (2, _), (3, _), (4, _), (5, _), (6, _)]) dL_law_1518 rfl rfl (by decide) rfl ?_
            refine K_goto (tgt := 23) dL_law_1521 (by decide) ?_
            refine K.keep [0, 1, 2, 3, 4] ?_
            exact hrc (x4 + 5) u165.2 _ _ (by show k + 1 + F ≤ 601024; omega) (by show n + 6 + G ≤ 7293034; omega)
          · refine K_iconst (v := 0) dL_law_1023 (by decide) ?_
            exact K_lawret hQ ht dL_law_1024 (by show k + 1 ≤ 601024; omega) (by show n + 6 ≤ 7293034; omega)
      · refine K_iconst (v := 0) dL_law_1006 (by decide) ?_
        exact K_lawret hQ ht dL_law_1007 (by show k + 1 ≤ 601024; omega) (by show n + 6 ≤ 7293034; omega)
  · refine K_iconst (v := 1) dL_law_960 (by decide) ?_
    refine K_goto (tgt := 965) dL_law_961 (by decide) ?_
    refine K_aload_n dL_law_965 rfl rfl ?_
    refine K_bind (fun u170 hu170 => ?_)
    refine K_callSWI (As := [.ref a1, .int (xs (x4 + 1).toNatClampNeg), .int 1, .ref a3]) (k_L_declareFrame fu hE ha1 ha3 hu170) dL_law_966 w_L_136 rfl rfl (Nat.le_of_ble_eq_true rfl) ⟨Nat.le_of_ble_eq_true rfl, Nat.le_of_ble_eq_true rfl, by show k + 0 + 1 ≤ 601024; omega, by show n + 0 + 6 ≤ 7293034; omega⟩ ?_
    refine K_istore (ls' := [(0, _), (1, _), (2, _), (3, _), (4, _), (5, _)]) dL_law_969 (by decide) rfl ?_
    refine K_aload_n dL_law_971 rfl rfl ?_
    refine K_aload_n dL_law_972 rfl rfl ?_
    refine K_iload dL_law_973 rfl ?_
    refine K_iconst (v := 1) dL_law_975 (by decide) ?_
    refine K_iadd dL_law_976 ?_
    refine K_chk (fun h171 => ?_)
    refine K_sld hs dL_law_977 h171 ?_
    refine K_aload_n dL_law_978 rfl rfl ?_
    refine K_iload dL_law_979 rfl ?_
    refine K_iconst (v := 2) dL_law_981 (by decide) ?_
    refine K_iadd dL_law_982 ?_
    refine K_chk (fun h172 => ?_)
    refine K_sld hs dL_law_983 h172 ?_
    refine K_if_eq (tgt := 991) dL_law_984 (by decide) (fun c183 => ?_) (fun c183 => ?_)
    · refine K_iconst (v := 0) dL_law_991 (by decide) ?_
      refine K_bind (fun u173 hu173 => ?_)
      refine K_callVI (As := [.int (xs (x4 + 1).toNatClampNeg), .int 0]) (k_X12_declareFrame fu hE ha2 hu173) dL_law_992 v_L_138 ha2 rfl rfl rfl rfl (Nat.le_of_ble_eq_true rfl) ⟨Nat.le_of_ble_eq_true rfl, Nat.le_of_ble_eq_true rfl, by show k + 1 + 0 ≤ 601024; omega, by show n + 6 + 0 ≤ 7293034; omega⟩ ?_
      refine K_istore (ls' := [(0, _), (1, _), (2, _), (3, _), (4, _), (5, _), (6, _)]) dL_law_995 (by decide) rfl ?_
      refine K_aload_n dL_law_997 rfl rfl ?_
      refine K_bind (fun u174 hu174 => ?_)
      refine K_callVI (As := []) (k_X12_thrown fu hE ha2 hu174) dL_law_998 v_L_95 ha2 rfl rfl rfl rfl (Nat.le_of_ble_eq_true rfl) ⟨Nat.le_of_ble_eq_true rfl, Nat.le_of_ble_eq_true rfl, by show k + 1 + 0 ≤ 601024; omega, by show n + 6 + 0 ≤ 7293034; omega⟩ ?_
      refine K_iload dL_law_1001 rfl ?_
      refine K_icmp_eq (tgt := 1008) dL_law_1003 (by decide) (fun c177 => ?_) (fun c177 => ?_)
      · refine K_iload dL_law_1008 rfl ?_
        refine K_if_ne (tgt := 1025) dL_law_1010 (by decide) (fun c176 => ?_) (fun c176 => ?_)
        · refine K_goto (tgt := 1518) dL_law_1025 (by decide) ?_
          refine K_iinc (v := (x4 + 5)) (ls' := [(0, _), (1, _), (2, _), (3, _), (4, _), (5, _), (6, _)]) dL_law_1518 rfl rfl (by decide) rfl ?_
          refine K_goto (tgt := 23) dL_law_1521 (by decide) ?_
          refine K.keep [0, 1, 2, 3, 4] ?_
          exact hrc (x4 + 5) u174.2 _ _ (by show k + 1 + F ≤ 601024; omega) (by show n + 6 + G ≤ 7293034; omega)
        · refine K_aload_n dL_law_1013 rfl rfl ?_
          refine K_iconst (v := 0) dL_law_1014 (by decide) ?_
          refine K_lald dL_law_1015 ha3 (by decide) ?_
          refine K_iload dL_law_1016 rfl ?_
          refine K_i2l dL_law_1018 ?_
          refine K_lcmp dL_law_1019 ?_
          refine K_if_eq (tgt := 1025) dL_law_1020 (by decide) (fun c175 => ?_) (fun c175 => ?_)
          · refine K_goto (tgt := 1518) dL_law_1025 (by decide) ?_
            refine K_iinc (v := (x4 + 5)) (ls' := [(0, _), (1, _), (2, _), (3, _), (4, _), (5, _), (6, _)]) dL_law_1518 rfl rfl (by decide) rfl ?_
            refine K_goto (tgt := 23) dL_law_1521 (by decide) ?_
            refine K.keep [0, 1, 2, 3, 4] ?_
            exact hrc (x4 + 5) u174.2 _ _ (by show k + 1 + F ≤ 601024; omega) (by show n + 6 + G ≤ 7293034; omega)
          · refine K_iconst (v := 0) dL_law_1023 (by decide) ?_
            exact K_lawret hQ ht dL_law_1024 (by show k + 1 ≤ 601024; omega) (by show n + 6 ≤ 7293034; omega)
      · refine K_iconst (v := 0) dL_law_1006 (by decide) ?_
        exact K_lawret hQ ht dL_law_1007 (by show k + 1 ≤ 601024; omega) (by show n + 6 ≤ 7293034; omega)
    · refine K_iconst (v := 1) dL_law_987 (by decide) ?_
      refine K_goto (tgt := 992) dL_law_988 (by decide) ?_
      refine K_bind (fun u178 hu178 => ?_)
      refine K_callVI (As := [.int (xs (x4 + 1).toNatClampNeg), .int 1]) (k_X12_declareFrame fu hE ha2 hu178) dL_law_992 v_L_138 ha2 rfl rfl rfl rfl (Nat.le_of_ble_eq_true rfl) ⟨Nat.le_of_ble_eq_true rfl, Nat.le_of_ble_eq_true rfl, by show k + 1 + 0 ≤ 601024; omega, by show n + 6 + 0 ≤ 7293034; omega⟩ ?_
      refine K_istore (ls' := [(0, _), (1, _), (2, _), (3, _), (4, _), (5, _), (6, _)]) dL_law_995 (by decide) rfl ?_
      refine K_aload_n dL_law_997 rfl rfl ?_
      refine K_bind (fun u179 hu179 => ?_)
      refine K_callVI (As := []) (k_X12_thrown fu hE ha2 hu179) dL_law_998 v_L_95 ha2 rfl rfl rfl rfl (Nat.le_of_ble_eq_true rfl) ⟨Nat.le_of_ble_eq_true rfl, Nat.le_of_ble_eq_true rfl, by show k + 1 + 0 ≤ 601024; omega, by show n + 6 + 0 ≤ 7293034; omega⟩ ?_
      refine K_iload dL_law_1001 rfl ?_
      refine K_icmp_eq (tgt := 1008) dL_law_1003 (by decide) (fun c182 => ?_) (fun c182 => ?_)
      · refine K_iload dL_law_1008 rfl ?_
        refine K_if_ne (tgt := 1025) dL_law_1010 (by decide) (fun c181 => ?_) (fun c181 => ?_)
        · refine K_goto (tgt := 1518) dL_law_1025 (by decide) ?_
          refine K_iinc (v := (x4 + 5)) (ls' := [(0, _), (1, _), (2, _), (3, _), (4, _), (5, _), (6, _)]) dL_law_1518 rfl rfl (by decide) rfl ?_
          refine K_goto (tgt := 23) dL_law_1521 (by decide) ?_
          refine K.keep [0, 1, 2, 3, 4] ?_
          exact hrc (x4 + 5) u179.2 _ _ (by show k + 1 + F ≤ 601024; omega) (by show n + 6 + G ≤ 7293034; omega)
        · refine K_aload_n dL_law_1013 rfl rfl ?_
          refine K_iconst (v := 0) dL_law_1014 (by decide) ?_
          refine K_lald dL_law_1015 ha3 (by decide) ?_
          refine K_iload dL_law_1016 rfl ?_
          refine K_i2l dL_law_1018 ?_
          refine K_lcmp dL_law_1019 ?_
          refine K_if_eq (tgt := 1025) dL_law_1020 (by decide) (fun c180 => ?_) (fun c180 => ?_)
          · refine K_goto (tgt := 1518) dL_law_1025 (by decide) ?_
            refine K_iinc (v := (x4 + 5)) (ls' := [(0, _), (1, _), (2, _), (3, _), (4, _), (5, _), (6, _)]) dL_law_1518 rfl rfl (by decide) rfl ?_
            refine K_goto (tgt := 23) dL_law_1521 (by decide) ?_
            refine K.keep [0, 1, 2, 3, 4] ?_
            exact hrc (x4 + 5) u179.2 _ _ (by show k + 1 + F ≤ 601024; omega) (by show n + 6 + G ≤ 7293034; omega)
          · refine K_iconst (v := 0) dL_law_1023 (by decide) ?_
            exact K_lawret hQ ht dL_law_1024 (by show k + 1 ≤ 601024; omega) (by show n + 6 ≤ 7293034; omega)
      · refine K_iconst (v := 0) dL_law_1006 (by decide) ?_
        exact K_lawret hQ ht dL_law_1007 (by show k + 1 ≤ 601024; omega) (by show n + 6 ≤ 7293034; omega)
def jb_L_law_1028 (fu : Nat) (E : Ev) (xs : Nat → Int32) (L a1 a2 a3 : Nat) (rc : Int32 → St → Option (Int32 × St)) (x4 : Int32) (S : St) : Option (Int32 × St) :=
  (sp_L_adoptFrames fu E S a1 a3).bind fun u186 =>
  (sp_X12_adoptFrames fu E u186.2 a2).bind fun u187 =>
  (sp_X12_thrown fu E u187.2 a2).bind fun u188 =>
  if u188.1 = u186.1 then (
    if u186.1 = 0 then (
      if (lg_cmp (u188.2.2.2.2 a3 (0 : Int32).toNatClampNeg) u187.1.toInt64) = 0 then (
        rc (x4 + 5) u188.2
      ) else (
        some (0, u188.2)
      )
    ) else (
      rc (x4 + 5) u188.2
    )
  ) else (
    some (0, u188.2)
  )
set_option maxRecDepth 100000 in
theorem kj_L_law_1028 {X : Cx} {E : Ev} {t : Int32 × St} {b L a1 a2 a3 : Nat} {xs : Nat → Int32} {rc : Int32 → St → Option (Int32 × St)} (hQ : EndL mL_law X) (ht : t.1 = 1) (hE : WE E) (hs : Scr X b L xs) (ha1 : E.1 a1 = some (0, 9, 0)) (ha2 : E.1 a2 = some (0, 10, 0)) (ha3 : E.1 a3 = some (1, 2, 1)) (fu : Nat) (k n F G : Nat) (hk : k + 8 + F ≤ 601024) (hn : n + 48 + G ≤ 7293034) (hrc : ∀ (x4 : Int32) (S : St) (k1 n1 : Nat), k1 + F ≤ 601024 → n1 + G ≤ 7293034 → K mL_law X E 23 [(0, .ref b), (1, .ref a1), (2, .ref a2), (3, .ref a3), (4, .int x4)] [] S k1 n1 (rc x4 S) t) (x4 : Int32) (S : St) : K mL_law X E 1028 [(0, .ref b), (1, .ref a1), (2, .ref a2), (3, .ref a3), (4, .int x4)] [] S k n (jb_L_law_1028 fu E xs L a1 a2 a3 rc x4 S) t := by
  unfold jb_L_law_1028
  refine K_aload_n dL_law_1028 rfl rfl ?_
  refine K_aload_n dL_law_1029 rfl rfl ?_
  refine K_bind (fun u186 hu186 => ?_)
  refine K_callSWI (As := [.ref a1, .ref a3]) (k_L_adoptFrames fu hE ha1 ha3 hu186) dL_law_1030 w_L_139 rfl rfl (Nat.le_of_ble_eq_true rfl) ⟨Nat.le_of_ble_eq_true rfl, Nat.le_of_ble_eq_true rfl, by show k + 0 + 1 ≤ 601024; omega, by show n + 0 + 6 ≤ 7293034; omega⟩ ?_
  refine K_istore (ls' := [(0, _), (1, _), (2, _), (3, _), (4, _), (5, _)]) dL_law_1033 (by decide) rfl ?_
  refine K_aload_n dL_law_1035 rfl rfl ?_
  refine K_bind (fun u187 hu187 => ?_)
  refine K_callVI (As := []) (k_X12_adoptFrames fu hE ha2 hu187) dL_law_1036 v_L_142 ha2 rfl rfl rfl rfl (Nat.le_of_ble_eq_true rfl) ⟨Nat.le_of_ble_eq_true rfl, Nat.le_of_ble_eq_true rfl, by show k + 1 + 0 ≤ 601024; omega, by show n + 6 + 0 ≤ 7293034; omega⟩ ?_
  refine K_istore (ls' := [(0, _), (1, _), (2, _), (3, _), (4, _), (5, _), (6, _)]) dL_law_1039 (by decide) rfl ?_
  refine K_aload_n dL_law_1041 rfl rfl ?_
  refine K_bind (fun u188 hu188 => ?_)
  refine K_callVI (As := []) (k_X12_thrown fu hE ha2 hu188) dL_law_1042 v_L_95 ha2 rfl rfl rfl rfl (Nat.le_of_ble_eq_true rfl) ⟨Nat.le_of_ble_eq_true rfl, Nat.le_of_ble_eq_true rfl, by show k + 1 + 0 ≤ 601024; omega, by show n + 6 + 0 ≤ 7293034; omega⟩ ?_
  refine K_iload dL_law_1045 rfl ?_
  refine K_icmp_eq (tgt := 1052) dL_law_1047 (by decide) (fun c191 => ?_) (fun c191 => ?_)
  · refine K_iload dL_law_1052 rfl ?_
    refine K_if_ne (tgt := 1069) dL_law_1054 (by decide) (fun c190 => ?_) (fun c190 => ?_)
    · refine K_goto (tgt := 1518) dL_law_1069 (by decide) ?_
      refine K_iinc (v := (x4 + 5)) (ls' := [(0, _), (1, _), (2, _), (3, _), (4, _), (5, _), (6, _)]) dL_law_1518 rfl rfl (by decide) rfl ?_
      refine K_goto (tgt := 23) dL_law_1521 (by decide) ?_
      refine K.keep [0, 1, 2, 3, 4] ?_
      exact hrc (x4 + 5) u188.2 _ _ (by show k + 1 + F ≤ 601024; omega) (by show n + 6 + G ≤ 7293034; omega)
    · refine K_aload_n dL_law_1057 rfl rfl ?_
      refine K_iconst (v := 0) dL_law_1058 (by decide) ?_
      refine K_lald dL_law_1059 ha3 (by decide) ?_
      refine K_iload dL_law_1060 rfl ?_
      refine K_i2l dL_law_1062 ?_
      refine K_lcmp dL_law_1063 ?_
      refine K_if_eq (tgt := 1069) dL_law_1064 (by decide) (fun c189 => ?_) (fun c189 => ?_)
      · refine K_goto (tgt := 1518) dL_law_1069 (by decide) ?_
        refine K_iinc (v := (x4 + 5)) (ls' := [(0, _), (1, _), (2, _), (3, _), (4, _), (5, _), (6, _)]) dL_law_1518 rfl rfl (by decide) rfl ?_
        refine K_goto (tgt := 23) dL_law_1521 (by decide) ?_
        refine K.keep [0, 1, 2, 3, 4] ?_
        exact hrc (x4 + 5) u188.2 _ _ (by show k + 1 + F ≤ 601024; omega) (by show n + 6 + G ≤ 7293034; omega)
      · refine K_iconst (v := 0) dL_law_1067 (by decide) ?_
        exact K_lawret hQ ht dL_law_1068 (by show k + 1 ≤ 601024; omega) (by show n + 6 ≤ 7293034; omega)
  · refine K_iconst (v := 0) dL_law_1050 (by decide) ?_
    exact K_lawret hQ ht dL_law_1051 (by show k + 1 ≤ 601024; omega) (by show n + 6 ≤ 7293034; omega)
def jb_L_law_1072 (fu : Nat) (E : Ev) (xs : Nat → Int32) (L a1 a2 a3 : Nat) (rc : Int32 → St → Option (Int32 × St)) (x4 : Int32) (S : St) : Option (Int32 × St) :=
  (sp_L_infer fu E S a1 a3).bind fun u193 =>
  (sp_X12_infer fu E u193.2 a2).bind fun u194 =>
  (sp_X12_thrown fu E u194.2 a2).bind fun u195 =>
  if u195.1 = u193.1 then (
    if u193.1 = 0 then (
      if (lg_cmp (u195.2.2.2.2 a3 (0 : Int32).toNatClampNeg) u194.1.toInt64) = 0 then (
        rc (x4 + 5) u195.2
      ) else (
        some (0, u195.2)
      )
    ) else (
      rc (x4 + 5) u195.2
    )
  ) else (
    some (0, u195.2)
  )
set_option maxRecDepth 100000 in
theorem kj_L_law_1072 {X : Cx} {E : Ev} {t : Int32 × St} {b L a1 a2 a3 : Nat} {xs : Nat → Int32} {rc : Int32 → St → Option (Int32 × St)} (hQ : EndL mL_law X) (ht : t.1 = 1) (hE : WE E) (hs : Scr X b L xs) (ha1 : E.1 a1 = some (0, 9, 0)) (ha2 : E.1 a2 = some (0, 10, 0)) (ha3 : E.1 a3 = some (1, 2, 1)) (fu : Nat) (k n F G : Nat) (hk : k + 8 + F ≤ 601024) (hn : n + 48 + G ≤ 7293034) (hrc : ∀ (x4 : Int32) (S : St) (k1 n1 : Nat), k1 + F ≤ 601024 → n1 + G ≤ 7293034 → K mL_law X E 23 [(0, .ref b), (1, .ref a1), (2, .ref a2), (3, .ref a3), (4, .int x4)] [] S k1 n1 (rc x4 S) t) (x4 : Int32) (S : St) : K mL_law X E 1072 [(0, .ref b), (1, .ref a1), (2, .ref a2), (3, .ref a3), (4, .int x4)] [] S k n (jb_L_law_1072 fu E xs L a1 a2 a3 rc x4 S) t := by
  unfold jb_L_law_1072
  refine K_aload_n dL_law_1072 rfl rfl ?_
  refine K_aload_n dL_law_1073 rfl rfl ?_
  refine K_bind (fun u193 hu193 => ?_)
  refine K_callSWI (As := [.ref a1, .ref a3]) (k_L_infer fu hE ha1 ha3 hu193) dL_law_1074 w_L_143 rfl rfl (Nat.le_of_ble_eq_true rfl) ⟨Nat.le_of_ble_eq_true rfl, Nat.le_of_ble_eq_true rfl, by show k + 0 + 1 ≤ 601024; omega, by show n + 0 + 6 ≤ 7293034; omega⟩ ?_
  refine K_istore (ls' := [(0, _), (1, _), (2, _), (3, _), (4, _), (5, _)]) dL_law_1077 (by decide) rfl ?_
  refine K_aload_n dL_law_1079 rfl rfl ?_
  refine K_bind (fun u194 hu194 => ?_)
  refine K_callVI (As := []) (k_X12_infer fu hE ha2 hu194) dL_law_1080 v_L_145 ha2 rfl rfl rfl rfl (Nat.le_of_ble_eq_true rfl) ⟨Nat.le_of_ble_eq_true rfl, Nat.le_of_ble_eq_true rfl, by show k + 1 + 0 ≤ 601024; omega, by show n + 6 + 0 ≤ 7293034; omega⟩ ?_
  refine K_istore (ls' := [(0, _), (1, _), (2, _), (3, _), (4, _), (5, _), (6, _)]) dL_law_1083 (by decide) rfl ?_
  refine K_aload_n dL_law_1085 rfl rfl ?_
  refine K_bind (fun u195 hu195 => ?_)
  refine K_callVI (As := []) (k_X12_thrown fu hE ha2 hu195) dL_law_1086 v_L_95 ha2 rfl rfl rfl rfl (Nat.le_of_ble_eq_true rfl) ⟨Nat.le_of_ble_eq_true rfl, Nat.le_of_ble_eq_true rfl, by show k + 1 + 0 ≤ 601024; omega, by show n + 6 + 0 ≤ 7293034; omega⟩ ?_
  refine K_iload dL_law_1089 rfl ?_
  refine K_icmp_eq (tgt := 1096) dL_law_1091 (by decide) (fun c198 => ?_) (fun c198 => ?_)
  · refine K_iload dL_law_1096 rfl ?_
    refine K_if_ne (tgt := 1113) dL_law_1098 (by decide) (fun c197 => ?_) (fun c197 => ?_)
    · refine K_goto (tgt := 1518) dL_law_1113 (by decide) ?_
      refine K_iinc (v := (x4 + 5)) (ls' := [(0, _), (1, _), (2, _), (3, _), (4, _), (5, _), (6, _)]) dL_law_1518 rfl rfl (by decide) rfl ?_
      refine K_goto (tgt := 23) dL_law_1521 (by decide) ?_
      refine K.keep [0, 1, 2, 3, 4] ?_
      exact hrc (x4 + 5) u195.2 _ _ (by show k + 1 + F ≤ 601024; omega) (by show n + 6 + G ≤ 7293034; omega)
    · refine K_aload_n dL_law_1101 rfl rfl ?_
      refine K_iconst (v := 0) dL_law_1102 (by decide) ?_
      refine K_lald dL_law_1103 ha3 (by decide) ?_
      refine K_iload dL_law_1104 rfl ?_
      refine K_i2l dL_law_1106 ?_
      refine K_lcmp dL_law_1107 ?_
      refine K_if_eq (tgt := 1113) dL_law_1108 (by decide) (fun c196 => ?_) (fun c196 => ?_)
      · refine K_goto (tgt := 1518) dL_law_1113 (by decide) ?_
        refine K_iinc (v := (x4 + 5)) (ls' := [(0, _), (1, _), (2, _), (3, _), (4, _), (5, _), (6, _)]) dL_law_1518 rfl rfl (by decide) rfl ?_
        refine K_goto (tgt := 23) dL_law_1521 (by decide) ?_
        refine K.keep [0, 1, 2, 3, 4] ?_
        exact hrc (x4 + 5) u195.2 _ _ (by show k + 1 + F ≤ 601024; omega) (by show n + 6 + G ≤ 7293034; omega)
      · refine K_iconst (v := 0) dL_law_1111 (by decide) ?_
        exact K_lawret hQ ht dL_law_1112 (by show k + 1 ≤ 601024; omega) (by show n + 6 ≤ 7293034; omega)
  · refine K_iconst (v := 0) dL_law_1094 (by decide) ?_
    exact K_lawret hQ ht dL_law_1095 (by show k + 1 ≤ 601024; omega) (by show n + 6 ≤ 7293034; omega)
def jb_L_law_1116 (fu : Nat) (E : Ev) (xs : Nat → Int32) (L a1 a2 a3 : Nat) (rc : Int32 → St → Option (Int32 × St)) (x4 : Int32) (S : St) : Option (Int32 × St) :=
  (sp_L_check fu E S a1 a3).bind fun u200 =>
  (sp_X12_check fu E u200.2 a2).bind fun u201 =>
  (sp_X12_thrown fu E u201.2 a2).bind fun u202 =>
  if u202.1 = u200.1 then (
    if u200.1 = 0 then (
      if (lg_cmp (u202.2.2.2.2 a3 (0 : Int32).toNatClampNeg) u201.1.toInt64) = 0 then (
        rc (x4 + 5) u202.2
      ) else (
        some (0, u202.2)
      )
    ) else (
      rc (x4 + 5) u202.2
    )
  ) else (
    some (0, u202.2)
  )
set_option maxRecDepth 100000 in
theorem kj_L_law_1116 {X : Cx} {E : Ev} {t : Int32 × St} {b L a1 a2 a3 : Nat} {xs : Nat → Int32} {rc : Int32 → St → Option (Int32 × St)} (hQ : EndL mL_law X) (ht : t.1 = 1) (hE : WE E) (hs : Scr X b L xs) (ha1 : E.1 a1 = some (0, 9, 0)) (ha2 : E.1 a2 = some (0, 10, 0)) (ha3 : E.1 a3 = some (1, 2, 1)) (fu : Nat) (k n F G : Nat) (hk : k + 8 + F ≤ 601024) (hn : n + 48 + G ≤ 7293034) (hrc : ∀ (x4 : Int32) (S : St) (k1 n1 : Nat), k1 + F ≤ 601024 → n1 + G ≤ 7293034 → K mL_law X E 23 [(0, .ref b), (1, .ref a1), (2, .ref a2), (3, .ref a3), (4, .int x4)] [] S k1 n1 (rc x4 S) t) (x4 : Int32) (S : St) : K mL_law X E 1116 [(0, .ref b), (1, .ref a1), (2, .ref a2), (3, .ref a3), (4, .int x4)] [] S k n (jb_L_law_1116 fu E xs L a1 a2 a3 rc x4 S) t := by
  unfold jb_L_law_1116
  refine K_aload_n dL_law_1116 rfl rfl ?_
  refine K_aload_n dL_law_1117 rfl rfl ?_
  refine K_bind (fun u200 hu200 => ?_)
  refine K_callSWI (As := [.ref a1, .ref a3]) (k_L_check fu hE ha1 ha3 hu200) dL_law_1118 w_L_146 rfl rfl (Nat.le_of_ble_eq_true rfl) ⟨Nat.le_of_ble_eq_true rfl, Nat.le_of_ble_eq_true rfl, by show k + 0 + 1 ≤ 601024; omega, by show n + 0 + 6 ≤ 7293034; omega⟩ ?_
  refine K_istore (ls' := [(0, _), (1, _), (2, _), (3, _), (4, _), (5, _)]) dL_law_1121 (by decide) rfl ?_
  refine K_aload_n dL_law_1123 rfl rfl ?_
  refine K_bind (fun u201 hu201 => ?_)
  refine K_callVI (As := []) (k_X12_check fu hE ha2 hu201) dL_law_1124 v_L_148 ha2 rfl rfl rfl rfl (Nat.le_of_ble_eq_true rfl) ⟨Nat.le_of_ble_eq_true rfl, Nat.le_of_ble_eq_true rfl, by show k + 1 + 0 ≤ 601024; omega, by show n + 6 + 0 ≤ 7293034; omega⟩ ?_
  refine K_istore (ls' := [(0, _), (1, _), (2, _), (3, _), (4, _), (5, _), (6, _)]) dL_law_1127 (by decide) rfl ?_
  refine K_aload_n dL_law_1129 rfl rfl ?_
  refine K_bind (fun u202 hu202 => ?_)
  refine K_callVI (As := []) (k_X12_thrown fu hE ha2 hu202) dL_law_1130 v_L_95 ha2 rfl rfl rfl rfl (Nat.le_of_ble_eq_true rfl) ⟨Nat.le_of_ble_eq_true rfl, Nat.le_of_ble_eq_true rfl, by show k + 1 + 0 ≤ 601024; omega, by show n + 6 + 0 ≤ 7293034; omega⟩ ?_
  refine K_iload dL_law_1133 rfl ?_
  refine K_icmp_eq (tgt := 1140) dL_law_1135 (by decide) (fun c205 => ?_) (fun c205 => ?_)
  · refine K_iload dL_law_1140 rfl ?_
    refine K_if_ne (tgt := 1157) dL_law_1142 (by decide) (fun c204 => ?_) (fun c204 => ?_)
    · refine K_goto (tgt := 1518) dL_law_1157 (by decide) ?_
      refine K_iinc (v := (x4 + 5)) (ls' := [(0, _), (1, _), (2, _), (3, _), (4, _), (5, _), (6, _)]) dL_law_1518 rfl rfl (by decide) rfl ?_
      refine K_goto (tgt := 23) dL_law_1521 (by decide) ?_
      refine K.keep [0, 1, 2, 3, 4] ?_
      exact hrc (x4 + 5) u202.2 _ _ (by show k + 1 + F ≤ 601024; omega) (by show n + 6 + G ≤ 7293034; omega)
    · refine K_aload_n dL_law_1145 rfl rfl ?_
      refine K_iconst (v := 0) dL_law_1146 (by decide) ?_
      refine K_lald dL_law_1147 ha3 (by decide) ?_
      refine K_iload dL_law_1148 rfl ?_
      refine K_i2l dL_law_1150 ?_
      refine K_lcmp dL_law_1151 ?_
      refine K_if_eq (tgt := 1157) dL_law_1152 (by decide) (fun c203 => ?_) (fun c203 => ?_)
      · refine K_goto (tgt := 1518) dL_law_1157 (by decide) ?_
        refine K_iinc (v := (x4 + 5)) (ls' := [(0, _), (1, _), (2, _), (3, _), (4, _), (5, _), (6, _)]) dL_law_1518 rfl rfl (by decide) rfl ?_
        refine K_goto (tgt := 23) dL_law_1521 (by decide) ?_
        refine K.keep [0, 1, 2, 3, 4] ?_
        exact hrc (x4 + 5) u202.2 _ _ (by show k + 1 + F ≤ 601024; omega) (by show n + 6 + G ≤ 7293034; omega)
      · refine K_iconst (v := 0) dL_law_1155 (by decide) ?_
        exact K_lawret hQ ht dL_law_1156 (by show k + 1 ≤ 601024; omega) (by show n + 6 ≤ 7293034; omega)
  · refine K_iconst (v := 0) dL_law_1138 (by decide) ?_
    exact K_lawret hQ ht dL_law_1139 (by show k + 1 ≤ 601024; omega) (by show n + 6 ≤ 7293034; omega)
def jb_L_law_1160 (fu : Nat) (E : Ev) (xs : Nat → Int32) (L a1 a2 a3 : Nat) (rc : Int32 → St → Option (Int32 × St)) (x4 : Int32) (S : St) : Option (Int32 × St) :=
  (sp_X11_errorPosition fu E S a1).bind fun u207 =>
  (sp_X12_errorPosition fu E u207.2 a2).bind fun u208 =>
  if u207.1 = u208.1 then (
    rc (x4 + 5) u208.2
  ) else (
    some (0, u208.2)
  )
set_option maxRecDepth 100000 in
theorem kj_L_law_1160 {X : Cx} {E : Ev} {t : Int32 × St} {b L a1 a2 a3 : Nat} {xs : Nat → Int32} {rc : Int32 → St → Option (Int32 × St)} (hQ : EndL mL_law X) (ht : t.1 = 1) (hE : WE E) (hs : Scr X b L xs) (ha1 : E.1 a1 = some (0, 9, 0)) (ha2 : E.1 a2 = some (0, 10, 0)) (ha3 : E.1 a3 = some (1, 2, 1)) (fu : Nat) (k n F G : Nat) (hk : k + 8 + F ≤ 601024) (hn : n + 48 + G ≤ 7293034) (hrc : ∀ (x4 : Int32) (S : St) (k1 n1 : Nat), k1 + F ≤ 601024 → n1 + G ≤ 7293034 → K mL_law X E 23 [(0, .ref b), (1, .ref a1), (2, .ref a2), (3, .ref a3), (4, .int x4)] [] S k1 n1 (rc x4 S) t) (x4 : Int32) (S : St) : K mL_law X E 1160 [(0, .ref b), (1, .ref a1), (2, .ref a2), (3, .ref a3), (4, .int x4)] [] S k n (jb_L_law_1160 fu E xs L a1 a2 a3 rc x4 S) t := by
  unfold jb_L_law_1160
  refine K_aload_n dL_law_1160 rfl rfl ?_
  refine K_bind (fun u207 hu207 => ?_)
  refine K_callVI (As := []) (k_X11_errorPosition fu hE ha1 hu207) dL_law_1161 v_L_149 ha1 rfl rfl rfl rfl (Nat.le_of_ble_eq_true rfl) ⟨Nat.le_of_ble_eq_true rfl, Nat.le_of_ble_eq_true rfl, by show k + 0 + 0 ≤ 601024; omega, by show n + 0 + 0 ≤ 7293034; omega⟩ ?_
  refine K_aload_n dL_law_1164 rfl rfl ?_
  refine K_bind (fun u208 hu208 => ?_)
  refine K_callVI (As := []) (k_X12_errorPosition fu hE ha2 hu208) dL_law_1165 v_L_152 ha2 rfl rfl rfl rfl (Nat.le_of_ble_eq_true rfl) ⟨Nat.le_of_ble_eq_true rfl, Nat.le_of_ble_eq_true rfl, by show k + 0 + 0 ≤ 601024; omega, by show n + 0 + 0 ≤ 7293034; omega⟩ ?_
  refine K_icmp_eq (tgt := 1518) dL_law_1168 (by decide) (fun c209 => ?_) (fun c209 => ?_)
  · refine K_iinc (v := (x4 + 5)) (ls' := [(0, _), (1, _), (2, _), (3, _), (4, _)]) dL_law_1518 rfl rfl (by decide) rfl ?_
    refine K_goto (tgt := 23) dL_law_1521 (by decide) ?_
    refine K.keep [0, 1, 2, 3, 4] ?_
    exact hrc (x4 + 5) u208.2 _ _ (by show k + 0 + F ≤ 601024; omega) (by show n + 0 + G ≤ 7293034; omega)
  · refine K_iconst (v := 0) dL_law_1171 (by decide) ?_
    exact K_lawret hQ ht dL_law_1172 (by show k + 0 ≤ 601024; omega) (by show n + 0 ≤ 7293034; omega)
def jb_L_law_1173 (fu : Nat) (E : Ev) (xs : Nat → Int32) (L a1 a2 a3 : Nat) (rc : Int32 → St → Option (Int32 × St)) (x4 : Int32) (S : St) : Option (Int32 × St) :=
  (sp_X11_visits fu E S a1).bind fun u211 =>
  (sp_X12_visits fu E u211.2 a2).bind fun u212 =>
  if u211.1 = u212.1 then (
    rc (x4 + 5) u212.2
  ) else (
    some (0, u212.2)
  )
set_option maxRecDepth 100000 in
theorem kj_L_law_1173 {X : Cx} {E : Ev} {t : Int32 × St} {b L a1 a2 a3 : Nat} {xs : Nat → Int32} {rc : Int32 → St → Option (Int32 × St)} (hQ : EndL mL_law X) (ht : t.1 = 1) (hE : WE E) (hs : Scr X b L xs) (ha1 : E.1 a1 = some (0, 9, 0)) (ha2 : E.1 a2 = some (0, 10, 0)) (ha3 : E.1 a3 = some (1, 2, 1)) (fu : Nat) (k n F G : Nat) (hk : k + 8 + F ≤ 601024) (hn : n + 48 + G ≤ 7293034) (hrc : ∀ (x4 : Int32) (S : St) (k1 n1 : Nat), k1 + F ≤ 601024 → n1 + G ≤ 7293034 → K mL_law X E 23 [(0, .ref b), (1, .ref a1), (2, .ref a2), (3, .ref a3), (4, .int x4)] [] S k1 n1 (rc x4 S) t) (x4 : Int32) (S : St) : K mL_law X E 1173 [(0, .ref b), (1, .ref a1), (2, .ref a2), (3, .ref a3), (4, .int x4)] [] S k n (jb_L_law_1173 fu E xs L a1 a2 a3 rc x4 S) t := by
  unfold jb_L_law_1173
  refine K_aload_n dL_law_1173 rfl rfl ?_
  refine K_bind (fun u211 hu211 => ?_)
  refine K_callVI (As := []) (k_X11_visits fu hE ha1 hu211) dL_law_1174 v_L_153 ha1 rfl rfl rfl rfl (Nat.le_of_ble_eq_true rfl) ⟨Nat.le_of_ble_eq_true rfl, Nat.le_of_ble_eq_true rfl, by show k + 0 + 0 ≤ 601024; omega, by show n + 0 + 0 ≤ 7293034; omega⟩ ?_
  refine K_aload_n dL_law_1177 rfl rfl ?_
  refine K_bind (fun u212 hu212 => ?_)
  refine K_callVI (As := []) (k_X12_visits fu hE ha2 hu212) dL_law_1178 v_L_156 ha2 rfl rfl rfl rfl (Nat.le_of_ble_eq_true rfl) ⟨Nat.le_of_ble_eq_true rfl, Nat.le_of_ble_eq_true rfl, by show k + 0 + 0 ≤ 601024; omega, by show n + 0 + 0 ≤ 7293034; omega⟩ ?_
  refine K_icmp_eq (tgt := 1518) dL_law_1181 (by decide) (fun c213 => ?_) (fun c213 => ?_)
  · refine K_iinc (v := (x4 + 5)) (ls' := [(0, _), (1, _), (2, _), (3, _), (4, _)]) dL_law_1518 rfl rfl (by decide) rfl ?_
    refine K_goto (tgt := 23) dL_law_1521 (by decide) ?_
    refine K.keep [0, 1, 2, 3, 4] ?_
    exact hrc (x4 + 5) u212.2 _ _ (by show k + 0 + F ≤ 601024; omega) (by show n + 0 + G ≤ 7293034; omega)
  · refine K_iconst (v := 0) dL_law_1184 (by decide) ?_
    exact K_lawret hQ ht dL_law_1185 (by show k + 0 ≤ 601024; omega) (by show n + 0 ≤ 7293034; omega)
def jb_L_law_1186 (fu : Nat) (E : Ev) (xs : Nat → Int32) (L a1 a2 a3 : Nat) (rc : Int32 → St → Option (Int32 × St)) (x4 : Int32) (S : St) : Option (Int32 × St) :=
  if inb (x4 + 1) L = true then
    (
    (sp_L_hasFrame fu E S a1 (xs (x4 + 1).toNatClampNeg) a3).bind fun u216 =>
    if inb (x4 + 1) L = true then
      (
      (sp_X12_hasFrame fu E u216.2 a2 (xs (x4 + 1).toNatClampNeg)).bind fun u218 =>
      (sp_X12_thrown fu E u218.2 a2).bind fun u219 =>
      if u219.1 = u216.1 then (
        if u216.1 = 0 then (
          if u218.1 = 0 then (
            if (lg_cmp (u219.2.2.2.2 a3 (0 : Int32).toNatClampNeg) 0) = 0 then (
              rc (x4 + 5) u219.2
            ) else (
              some (0, u219.2)
            )
          ) else (
            if (lg_cmp (u219.2.2.2.2 a3 (0 : Int32).toNatClampNeg) 1) = 0 then (
              rc (x4 + 5) u219.2
            ) else (
              some (0, u219.2)
            )
          )
        ) else (
          rc (x4 + 5) u219.2
        )
      ) else (
        some (0, u219.2)
      )
      )
    else none
    )
  else none
set_option maxRecDepth 100000 in
theorem kj_L_law_1186 {X : Cx} {E : Ev} {t : Int32 × St} {b L a1 a2 a3 : Nat} {xs : Nat → Int32} {rc : Int32 → St → Option (Int32 × St)} (hQ : EndL mL_law X) (ht : t.1 = 1) (hE : WE E) (hs : Scr X b L xs) (ha1 : E.1 a1 = some (0, 9, 0)) (ha2 : E.1 a2 = some (0, 10, 0)) (ha3 : E.1 a3 = some (1, 2, 1)) (fu : Nat) (k n F G : Nat) (hk : k + 8 + F ≤ 601024) (hn : n + 48 + G ≤ 7293034) (hrc : ∀ (x4 : Int32) (S : St) (k1 n1 : Nat), k1 + F ≤ 601024 → n1 + G ≤ 7293034 → K mL_law X E 23 [(0, .ref b), (1, .ref a1), (2, .ref a2), (3, .ref a3), (4, .int x4)] [] S k1 n1 (rc x4 S) t) (x4 : Int32) (S : St) : K mL_law X E 1186 [(0, .ref b), (1, .ref a1), (2, .ref a2), (3, .ref a3), (4, .int x4)] [] S k n (jb_L_law_1186 fu E xs L a1 a2 a3 rc x4 S) t := by
  unfold jb_L_law_1186
  refine K_aload_n dL_law_1186 rfl rfl ?_
  refine K_aload_n dL_law_1187 rfl rfl ?_
  refine K_iload dL_law_1188 rfl ?_
  refine K_iconst (v := 1) dL_law_1190 (by decide) ?_
  refine K_iadd dL_law_1191 ?_
  refine K_chk (fun h215 => ?_)
  refine K_sld hs dL_law_1192 h215 ?_
  refine K_aload_n dL_law_1193 rfl rfl ?_
  refine K_bind (fun u216 hu216 => ?_)
  refine K_callSWI (As := [.ref a1, .int (xs (x4 + 1).toNatClampNeg), .ref a3]) (k_L_hasFrame fu hE ha1 ha3 hu216) dL_law_1194 w_L_157 rfl rfl (Nat.le_of_ble_eq_true rfl) ⟨Nat.le_of_ble_eq_true rfl, Nat.le_of_ble_eq_true rfl, by show k + 0 + 1 ≤ 601024; omega, by show n + 0 + 6 ≤ 7293034; omega⟩ ?_
  refine K_istore (ls' := [(0, _), (1, _), (2, _), (3, _), (4, _), (5, _)]) dL_law_1197 (by decide) rfl ?_
  refine K_aload_n dL_law_1199 rfl rfl ?_
  refine K_aload_n dL_law_1200 rfl rfl ?_
  refine K_iload dL_law_1201 rfl ?_
  refine K_iconst (v := 1) dL_law_1203 (by decide) ?_
  refine K_iadd dL_law_1204 ?_
  refine K_chk (fun h217 => ?_)
  refine K_sld hs dL_law_1205 h217 ?_
  refine K_bind (fun u218 hu218 => ?_)
  refine K_callVI (As := [.int (xs (x4 + 1).toNatClampNeg)]) (k_X12_hasFrame fu hE ha2 hu218) dL_law_1206 v_L_159 ha2 rfl rfl rfl rfl (Nat.le_of_ble_eq_true rfl) ⟨Nat.le_of_ble_eq_true rfl, Nat.le_of_ble_eq_true rfl, by show k + 1 + 0 ≤ 601024; omega, by show n + 6 + 0 ≤ 7293034; omega⟩ ?_
  refine K_istore (ls' := [(0, _), (1, _), (2, _), (3, _), (4, _), (5, _), (6, _)]) dL_law_1209 (by decide) rfl ?_
  refine K_aload_n dL_law_1211 rfl rfl ?_
  refine K_bind (fun u219 hu219 => ?_)
  refine K_callVI (As := []) (k_X12_thrown fu hE ha2 hu219) dL_law_1212 v_L_95 ha2 rfl rfl rfl rfl (Nat.le_of_ble_eq_true rfl) ⟨Nat.le_of_ble_eq_true rfl, Nat.le_of_ble_eq_true rfl, by show k + 1 + 0 ≤ 601024; omega, by show n + 6 + 0 ≤ 7293034; omega⟩ ?_
  refine K_iload dL_law_1215 rfl ?_
  refine K_icmp_eq (tgt := 1222) dL_law_1217 (by decide) (fun c224 => ?_) (fun c224 => ?_)
  · refine K_iload dL_law_1222 rfl ?_
    refine K_if_ne (tgt := 1246) dL_law_1224 (by decide) (fun c223 => ?_) (fun c223 => ?_)
    · refine K_goto (tgt := 1518) dL_law_1246 (by decide) ?_
      refine K_iinc (v := (x4 + 5)) (ls' := [(0, _), (1, _), (2, _), (3, _), (4, _), (5, _), (6, _)]) dL_law_1518 rfl rfl (by decide) rfl ?_
      refine K_goto (tgt := 23) dL_law_1521 (by decide) ?_
      refine K.keep [0, 1, 2, 3, 4] ?_
      exact hrc (x4 + 5) u219.2 _ _ (by show k + 1 + F ≤ 601024; omega) (by show n + 6 + G ≤ 7293034; omega)
    · refine K_aload_n dL_law_1227 rfl rfl ?_
      refine K_iconst (v := 0) dL_law_1228 (by decide) ?_
      refine K_lald dL_law_1229 ha3 (by decide) ?_
      refine K_iload dL_law_1230 rfl ?_
      refine K_if_eq (tgt := 1239) dL_law_1232 (by decide) (fun c222 => ?_) (fun c222 => ?_)
      · refine K_lconst (v := 0) dL_law_1239 rfl ?_
        refine K_lcmp dL_law_1240 ?_
        refine K_if_eq (tgt := 1246) dL_law_1241 (by decide) (fun c220 => ?_) (fun c220 => ?_)
        · refine K_goto (tgt := 1518) dL_law_1246 (by decide) ?_
          refine K_iinc (v := (x4 + 5)) (ls' := [(0, _), (1, _), (2, _), (3, _), (4, _), (5, _), (6, _)]) dL_law_1518 rfl rfl (by decide) rfl ?_
          refine K_goto (tgt := 23) dL_law_1521 (by decide) ?_
          refine K.keep [0, 1, 2, 3, 4] ?_
          exact hrc (x4 + 5) u219.2 _ _ (by show k + 1 + F ≤ 601024; omega) (by show n + 6 + G ≤ 7293034; omega)
        · refine K_iconst (v := 0) dL_law_1244 (by decide) ?_
          exact K_lawret hQ ht dL_law_1245 (by show k + 1 ≤ 601024; omega) (by show n + 6 ≤ 7293034; omega)
      · refine K_lconst (v := 1) dL_law_1235 rfl ?_
        refine K_goto (tgt := 1240) dL_law_1236 (by decide) ?_
        refine K_lcmp dL_law_1240 ?_
        refine K_if_eq (tgt := 1246) dL_law_1241 (by decide) (fun c221 => ?_) (fun c221 => ?_)
        · refine K_goto (tgt := 1518) dL_law_1246 (by decide) ?_
          refine K_iinc (v := (x4 + 5)) (ls' := [(0, _), (1, _), (2, _), (3, _), (4, _), (5, _), (6, _)]) dL_law_1518 rfl rfl (by decide) rfl ?_
          refine K_goto (tgt := 23) dL_law_1521 (by decide) ?_
          refine K.keep [0, 1, 2, 3, 4] ?_
          exact hrc (x4 + 5) u219.2 _ _ (by show k + 1 + F ≤ 601024; omega) (by show n + 6 + G ≤ 7293034; omega)
        · refine K_iconst (v := 0) dL_law_1244 (by decide) ?_
          exact K_lawret hQ ht dL_law_1245 (by show k + 1 ≤ 601024; omega) (by show n + 6 ≤ 7293034; omega)
  · refine K_iconst (v := 0) dL_law_1220 (by decide) ?_
    exact K_lawret hQ ht dL_law_1221 (by show k + 1 ≤ 601024; omega) (by show n + 6 ≤ 7293034; omega)
def jb_L_law_1249 (fu : Nat) (E : Ev) (xs : Nat → Int32) (L a1 a2 a3 : Nat) (rc : Int32 → St → Option (Int32 × St)) (x4 : Int32) (S : St) : Option (Int32 × St) :=
  if inb (x4 + 1) L = true then
    (
    (sp_L_stackHeight fu E S a1 (xs (x4 + 1).toNatClampNeg) a3).bind fun u227 =>
    if inb (x4 + 1) L = true then
      (
      (sp_X12_stackHeight fu E u227.2 a2 (xs (x4 + 1).toNatClampNeg)).bind fun u229 =>
      (sp_X12_thrown fu E u229.2 a2).bind fun u230 =>
      if u230.1 = u227.1 then (
        if u227.1 = 0 then (
          if (lg_cmp (u230.2.2.2.2 a3 (0 : Int32).toNatClampNeg) u229.1.toInt64) = 0 then (
            rc (x4 + 5) u230.2
          ) else (
            some (0, u230.2)
          )
        ) else (
          rc (x4 + 5) u230.2
        )
      ) else (
        some (0, u230.2)
      )
      )
    else none
    )
  else none
set_option maxRecDepth 100000 in
theorem kj_L_law_1249 {X : Cx} {E : Ev} {t : Int32 × St} {b L a1 a2 a3 : Nat} {xs : Nat → Int32} {rc : Int32 → St → Option (Int32 × St)} (hQ : EndL mL_law X) (ht : t.1 = 1) (hE : WE E) (hs : Scr X b L xs) (ha1 : E.1 a1 = some (0, 9, 0)) (ha2 : E.1 a2 = some (0, 10, 0)) (ha3 : E.1 a3 = some (1, 2, 1)) (fu : Nat) (k n F G : Nat) (hk : k + 8 + F ≤ 601024) (hn : n + 48 + G ≤ 7293034) (hrc : ∀ (x4 : Int32) (S : St) (k1 n1 : Nat), k1 + F ≤ 601024 → n1 + G ≤ 7293034 → K mL_law X E 23 [(0, .ref b), (1, .ref a1), (2, .ref a2), (3, .ref a3), (4, .int x4)] [] S k1 n1 (rc x4 S) t) (x4 : Int32) (S : St) : K mL_law X E 1249 [(0, .ref b), (1, .ref a1), (2, .ref a2), (3, .ref a3), (4, .int x4)] [] S k n (jb_L_law_1249 fu E xs L a1 a2 a3 rc x4 S) t := by
  unfold jb_L_law_1249
  refine K_aload_n dL_law_1249 rfl rfl ?_
  refine K_aload_n dL_law_1250 rfl rfl ?_
  refine K_iload dL_law_1251 rfl ?_
  refine K_iconst (v := 1) dL_law_1253 (by decide) ?_
  refine K_iadd dL_law_1254 ?_
  refine K_chk (fun h226 => ?_)
  refine K_sld hs dL_law_1255 h226 ?_
  refine K_aload_n dL_law_1256 rfl rfl ?_
  refine K_bind (fun u227 hu227 => ?_)
  refine K_callSWI (As := [.ref a1, .int (xs (x4 + 1).toNatClampNeg), .ref a3]) (k_L_stackHeight fu hE ha1 ha3 hu227) dL_law_1257 w_L_160 rfl rfl (Nat.le_of_ble_eq_true rfl) ⟨Nat.le_of_ble_eq_true rfl, Nat.le_of_ble_eq_true rfl, by show k + 0 + 2 ≤ 601024; omega, by show n + 0 + 12 ≤ 7293034; omega⟩ ?_
  refine K_istore (ls' := [(0, _), (1, _), (2, _), (3, _), (4, _), (5, _)]) dL_law_1260 (by decide) rfl ?_
  refine K_aload_n dL_law_1262 rfl rfl ?_
  refine K_aload_n dL_law_1263 rfl rfl ?_
  refine K_iload dL_law_1264 rfl ?_
  refine K_iconst (v := 1) dL_law_1266 (by decide) ?_
  refine K_iadd dL_law_1267 ?_
  refine K_chk (fun h228 => ?_)
  refine K_sld hs dL_law_1268 h228 ?_
  refine K_bind (fun u229 hu229 => ?_)
  refine K_callVI (As := [.int (xs (x4 + 1).toNatClampNeg)]) (k_X12_stackHeight fu hE ha2 hu229) dL_law_1269 v_L_162 ha2 rfl rfl rfl rfl (Nat.le_of_ble_eq_true rfl) ⟨Nat.le_of_ble_eq_true rfl, Nat.le_of_ble_eq_true rfl, by show k + 2 + 0 ≤ 601024; omega, by show n + 12 + 0 ≤ 7293034; omega⟩ ?_
  refine K_istore (ls' := [(0, _), (1, _), (2, _), (3, _), (4, _), (5, _), (6, _)]) dL_law_1272 (by decide) rfl ?_
  refine K_aload_n dL_law_1274 rfl rfl ?_
  refine K_bind (fun u230 hu230 => ?_)
  refine K_callVI (As := []) (k_X12_thrown fu hE ha2 hu230) dL_law_1275 v_L_95 ha2 rfl rfl rfl rfl (Nat.le_of_ble_eq_true rfl) ⟨Nat.le_of_ble_eq_true rfl, Nat.le_of_ble_eq_true rfl, by show k + 2 + 0 ≤ 601024; omega, by show n + 12 + 0 ≤ 7293034; omega⟩ ?_
  refine K_iload dL_law_1278 rfl ?_
  refine K_icmp_eq (tgt := 1285) dL_law_1280 (by decide) (fun c233 => ?_) (fun c233 => ?_)
  · refine K_iload dL_law_1285 rfl ?_
    refine K_if_ne (tgt := 1302) dL_law_1287 (by decide) (fun c232 => ?_) (fun c232 => ?_)
    · refine K_goto (tgt := 1518) dL_law_1302 (by decide) ?_
      refine K_iinc (v := (x4 + 5)) (ls' := [(0, _), (1, _), (2, _), (3, _), (4, _), (5, _), (6, _)]) dL_law_1518 rfl rfl (by decide) rfl ?_
      refine K_goto (tgt := 23) dL_law_1521 (by decide) ?_
      refine K.keep [0, 1, 2, 3, 4] ?_
      exact hrc (x4 + 5) u230.2 _ _ (by show k + 2 + F ≤ 601024; omega) (by show n + 12 + G ≤ 7293034; omega)
    · refine K_aload_n dL_law_1290 rfl rfl ?_
      refine K_iconst (v := 0) dL_law_1291 (by decide) ?_
      refine K_lald dL_law_1292 ha3 (by decide) ?_
      refine K_iload dL_law_1293 rfl ?_
      refine K_i2l dL_law_1295 ?_
      refine K_lcmp dL_law_1296 ?_
      refine K_if_eq (tgt := 1302) dL_law_1297 (by decide) (fun c231 => ?_) (fun c231 => ?_)
      · refine K_goto (tgt := 1518) dL_law_1302 (by decide) ?_
        refine K_iinc (v := (x4 + 5)) (ls' := [(0, _), (1, _), (2, _), (3, _), (4, _), (5, _), (6, _)]) dL_law_1518 rfl rfl (by decide) rfl ?_
        refine K_goto (tgt := 23) dL_law_1521 (by decide) ?_
        refine K.keep [0, 1, 2, 3, 4] ?_
        exact hrc (x4 + 5) u230.2 _ _ (by show k + 2 + F ≤ 601024; omega) (by show n + 12 + G ≤ 7293034; omega)
      · refine K_iconst (v := 0) dL_law_1300 (by decide) ?_
        exact K_lawret hQ ht dL_law_1301 (by show k + 2 ≤ 601024; omega) (by show n + 12 ≤ 7293034; omega)
  · refine K_iconst (v := 0) dL_law_1283 (by decide) ?_
    exact K_lawret hQ ht dL_law_1284 (by show k + 2 ≤ 601024; omega) (by show n + 12 ≤ 7293034; omega)
def jb_L_law_1305 (fu : Nat) (E : Ev) (xs : Nat → Int32) (L a1 a2 a3 : Nat) (rc : Int32 → St → Option (Int32 × St)) (x4 : Int32) (S : St) : Option (Int32 × St) :=
  if inb (x4 + 1) L = true then
    (
    if inb (x4 + 2) L = true then
      (
      (sp_L_stackSlot fu E S a1 (xs (x4 + 1).toNatClampNeg) (xs (x4 + 2).toNatClampNeg) a3).bind fun u237 =>
      if inb (x4 + 1) L = true then
        (
        if inb (x4 + 2) L = true then
          (
          (sp_X12_stackSlot fu E u237.2 a2 (xs (x4 + 1).toNatClampNeg) (xs (x4 + 2).toNatClampNeg)).bind fun u240 =>
          (sp_X12_thrown fu E u240.2 a2).bind fun u241 =>
          if u241.1 = u237.1 then (
            if u237.1 = 0 then (
              if (lg_cmp (u241.2.2.2.2 a3 (0 : Int32).toNatClampNeg) u240.1.toInt64) = 0 then (
                rc (x4 + 5) u241.2
              ) else (
                some (0, u241.2)
              )
            ) else (
              rc (x4 + 5) u241.2
            )
          ) else (
            some (0, u241.2)
          )
          )
        else none
        )
      else none
      )
    else none
    )
  else none
set_option maxRecDepth 100000 in
theorem kj_L_law_1305 {X : Cx} {E : Ev} {t : Int32 × St} {b L a1 a2 a3 : Nat} {xs : Nat → Int32} {rc : Int32 → St → Option (Int32 × St)} (hQ : EndL mL_law X) (ht : t.1 = 1) (hE : WE E) (hs : Scr X b L xs) (ha1 : E.1 a1 = some (0, 9, 0)) (ha2 : E.1 a2 = some (0, 10, 0)) (ha3 : E.1 a3 = some (1, 2, 1)) (fu : Nat) (k n F G : Nat) (hk : k + 8 + F ≤ 601024) (hn : n + 48 + G ≤ 7293034) (hrc : ∀ (x4 : Int32) (S : St) (k1 n1 : Nat), k1 + F ≤ 601024 → n1 + G ≤ 7293034 → K mL_law X E 23 [(0, .ref b), (1, .ref a1), (2, .ref a2), (3, .ref a3), (4, .int x4)] [] S k1 n1 (rc x4 S) t) (x4 : Int32) (S : St) : K mL_law X E 1305 [(0, .ref b), (1, .ref a1), (2, .ref a2), (3, .ref a3), (4, .int x4)] [] S k n (jb_L_law_1305 fu E xs L a1 a2 a3 rc x4 S) t := by
  unfold jb_L_law_1305
  refine K_aload_n dL_law_1305 rfl rfl ?_
  refine K_aload_n dL_law_1306 rfl rfl ?_
  refine K_iload dL_law_1307 rfl ?_
  refine K_iconst (v := 1) dL_law_1309 (by decide) ?_
  refine K_iadd dL_law_1310 ?_
  refine K_chk (fun h235 => ?_)
  refine K_sld hs dL_law_1311 h235 ?_
  refine K_aload_n dL_law_1312 rfl rfl ?_
  refine K_iload dL_law_1313 rfl ?_
  refine K_iconst (v := 2) dL_law_1315 (by decide) ?_
  refine K_iadd dL_law_1316 ?_
  refine K_chk (fun h236 => ?_)
  refine K_sld hs dL_law_1317 h236 ?_
  refine K_aload_n dL_law_1318 rfl rfl ?_
  refine K_bind (fun u237 hu237 => ?_)
  refine K_callSWI (As := [.ref a1, .int (xs (x4 + 1).toNatClampNeg), .int (xs (x4 + 2).toNatClampNeg), .ref a3]) (k_L_stackSlot fu hE ha1 ha3 hu237) dL_law_1319 w_L_163 rfl rfl (Nat.le_of_ble_eq_true rfl) ⟨Nat.le_of_ble_eq_true rfl, Nat.le_of_ble_eq_true rfl, by show k + 0 + 3 ≤ 601024; omega, by show n + 0 + 18 ≤ 7293034; omega⟩ ?_
  refine K_istore (ls' := [(0, _), (1, _), (2, _), (3, _), (4, _), (5, _)]) dL_law_1322 (by decide) rfl ?_
  refine K_aload_n dL_law_1324 rfl rfl ?_
  refine K_aload_n dL_law_1325 rfl rfl ?_
  refine K_iload dL_law_1326 rfl ?_
  refine K_iconst (v := 1) dL_law_1328 (by decide) ?_
  refine K_iadd dL_law_1329 ?_
  refine K_chk (fun h238 => ?_)
  refine K_sld hs dL_law_1330 h238 ?_
  refine K_aload_n dL_law_1331 rfl rfl ?_
  refine K_iload dL_law_1332 rfl ?_
  refine K_iconst (v := 2) dL_law_1334 (by decide) ?_
  refine K_iadd dL_law_1335 ?_
  refine K_chk (fun h239 => ?_)
  refine K_sld hs dL_law_1336 h239 ?_
  refine K_bind (fun u240 hu240 => ?_)
  refine K_callVI (As := [.int (xs (x4 + 1).toNatClampNeg), .int (xs (x4 + 2).toNatClampNeg)]) (k_X12_stackSlot fu hE ha2 hu240) dL_law_1337 v_L_165 ha2 rfl rfl rfl rfl (Nat.le_of_ble_eq_true rfl) ⟨Nat.le_of_ble_eq_true rfl, Nat.le_of_ble_eq_true rfl, by show k + 3 + 0 ≤ 601024; omega, by show n + 18 + 0 ≤ 7293034; omega⟩ ?_
  refine K_istore (ls' := [(0, _), (1, _), (2, _), (3, _), (4, _), (5, _), (6, _)]) dL_law_1340 (by decide) rfl ?_
  refine K_aload_n dL_law_1342 rfl rfl ?_
  refine K_bind (fun u241 hu241 => ?_)
  refine K_callVI (As := []) (k_X12_thrown fu hE ha2 hu241) dL_law_1343 v_L_95 ha2 rfl rfl rfl rfl (Nat.le_of_ble_eq_true rfl) ⟨Nat.le_of_ble_eq_true rfl, Nat.le_of_ble_eq_true rfl, by show k + 3 + 0 ≤ 601024; omega, by show n + 18 + 0 ≤ 7293034; omega⟩ ?_
  refine K_iload dL_law_1346 rfl ?_
  refine K_icmp_eq (tgt := 1353) dL_law_1348 (by decide) (fun c244 => ?_) (fun c244 => ?_)
  · refine K_iload dL_law_1353 rfl ?_
    refine K_if_ne (tgt := 1370) dL_law_1355 (by decide) (fun c243 => ?_) (fun c243 => ?_)
    · refine K_goto (tgt := 1518) dL_law_1370 (by decide) ?_
      refine K_iinc (v := (x4 + 5)) (ls' := [(0, _), (1, _), (2, _), (3, _), (4, _), (5, _), (6, _)]) dL_law_1518 rfl rfl (by decide) rfl ?_
      refine K_goto (tgt := 23) dL_law_1521 (by decide) ?_
      refine K.keep [0, 1, 2, 3, 4] ?_
      exact hrc (x4 + 5) u241.2 _ _ (by show k + 3 + F ≤ 601024; omega) (by show n + 18 + G ≤ 7293034; omega)
    · refine K_aload_n dL_law_1358 rfl rfl ?_
      refine K_iconst (v := 0) dL_law_1359 (by decide) ?_
      refine K_lald dL_law_1360 ha3 (by decide) ?_
      refine K_iload dL_law_1361 rfl ?_
      refine K_i2l dL_law_1363 ?_
      refine K_lcmp dL_law_1364 ?_
      refine K_if_eq (tgt := 1370) dL_law_1365 (by decide) (fun c242 => ?_) (fun c242 => ?_)
      · refine K_goto (tgt := 1518) dL_law_1370 (by decide) ?_
        refine K_iinc (v := (x4 + 5)) (ls' := [(0, _), (1, _), (2, _), (3, _), (4, _), (5, _), (6, _)]) dL_law_1518 rfl rfl (by decide) rfl ?_
        refine K_goto (tgt := 23) dL_law_1521 (by decide) ?_
        refine K.keep [0, 1, 2, 3, 4] ?_
        exact hrc (x4 + 5) u241.2 _ _ (by show k + 3 + F ≤ 601024; omega) (by show n + 18 + G ≤ 7293034; omega)
      · refine K_iconst (v := 0) dL_law_1368 (by decide) ?_
        exact K_lawret hQ ht dL_law_1369 (by show k + 3 ≤ 601024; omega) (by show n + 18 ≤ 7293034; omega)
  · refine K_iconst (v := 0) dL_law_1351 (by decide) ?_
    exact K_lawret hQ ht dL_law_1352 (by show k + 3 ≤ 601024; omega) (by show n + 18 ≤ 7293034; omega)
def jb_L_law_1373 (fu : Nat) (E : Ev) (xs : Nat → Int32) (L a1 a2 a3 : Nat) (rc : Int32 → St → Option (Int32 × St)) (x4 : Int32) (S : St) : Option (Int32 × St) :=
  if inb (x4 + 1) L = true then
    (
    if inb (x4 + 2) L = true then
      (
      (sp_L_localSlot fu E S a1 (xs (x4 + 1).toNatClampNeg) (xs (x4 + 2).toNatClampNeg) a3).bind fun u248 =>
      if inb (x4 + 1) L = true then
        (
        if inb (x4 + 2) L = true then
          (
          (sp_X12_localSlot fu E u248.2 a2 (xs (x4 + 1).toNatClampNeg) (xs (x4 + 2).toNatClampNeg)).bind fun u251 =>
          (sp_X12_thrown fu E u251.2 a2).bind fun u252 =>
          if u252.1 = u248.1 then (
            if u248.1 = 0 then (
              if (lg_cmp (u252.2.2.2.2 a3 (0 : Int32).toNatClampNeg) u251.1.toInt64) = 0 then (
                rc (x4 + 5) u252.2
              ) else (
                some (0, u252.2)
              )
            ) else (
              rc (x4 + 5) u252.2
            )
          ) else (
            some (0, u252.2)
          )
          )
        else none
        )
      else none
      )
    else none
    )
  else none
set_option maxRecDepth 100000 in
theorem kj_L_law_1373 {X : Cx} {E : Ev} {t : Int32 × St} {b L a1 a2 a3 : Nat} {xs : Nat → Int32} {rc : Int32 → St → Option (Int32 × St)} (hQ : EndL mL_law X) (ht : t.1 = 1) (hE : WE E) (hs : Scr X b L xs) (ha1 : E.1 a1 = some (0, 9, 0)) (ha2 : E.1 a2 = some (0, 10, 0)) (ha3 : E.1 a3 = some (1, 2, 1)) (fu : Nat) (k n F G : Nat) (hk : k + 8 + F ≤ 601024) (hn : n + 48 + G ≤ 7293034) (hrc : ∀ (x4 : Int32) (S : St) (k1 n1 : Nat), k1 + F ≤ 601024 → n1 + G ≤ 7293034 → K mL_law X E 23 [(0, .ref b), (1, .ref a1), (2, .ref a2), (3, .ref a3), (4, .int x4)] [] S k1 n1 (rc x4 S) t) (x4 : Int32) (S : St) : K mL_law X E 1373 [(0, .ref b), (1, .ref a1), (2, .ref a2), (3, .ref a3), (4, .int x4)] [] S k n (jb_L_law_1373 fu E xs L a1 a2 a3 rc x4 S) t := by
  unfold jb_L_law_1373
  refine K_aload_n dL_law_1373 rfl rfl ?_
  refine K_aload_n dL_law_1374 rfl rfl ?_
  refine K_iload dL_law_1375 rfl ?_
  refine K_iconst (v := 1) dL_law_1377 (by decide) ?_
  refine K_iadd dL_law_1378 ?_
  refine K_chk (fun h246 => ?_)
  refine K_sld hs dL_law_1379 h246 ?_
  refine K_aload_n dL_law_1380 rfl rfl ?_
  refine K_iload dL_law_1381 rfl ?_
  refine K_iconst (v := 2) dL_law_1383 (by decide) ?_
  refine K_iadd dL_law_1384 ?_
  refine K_chk (fun h247 => ?_)
  refine K_sld hs dL_law_1385 h247 ?_
  refine K_aload_n dL_law_1386 rfl rfl ?_
  refine K_bind (fun u248 hu248 => ?_)
  refine K_callSWI (As := [.ref a1, .int (xs (x4 + 1).toNatClampNeg), .int (xs (x4 + 2).toNatClampNeg), .ref a3]) (k_L_localSlot fu hE ha1 ha3 hu248) dL_law_1387 w_L_166 rfl rfl (Nat.le_of_ble_eq_true rfl) ⟨Nat.le_of_ble_eq_true rfl, Nat.le_of_ble_eq_true rfl, by show k + 0 + 3 ≤ 601024; omega, by show n + 0 + 18 ≤ 7293034; omega⟩ ?_
  refine K_istore (ls' := [(0, _), (1, _), (2, _), (3, _), (4, _), (5, _)]) dL_law_1390 (by decide) rfl ?_
  refine K_aload_n dL_law_1392 rfl rfl ?_
  refine K_aload_n dL_law_1393 rfl rfl ?_
  refine K_iload dL_law_1394 rfl ?_
  refine K_iconst (v := 1) dL_law_1396 (by decide) ?_
  refine K_iadd dL_law_1397 ?_
  refine K_chk (fun h249 => ?_)
  refine K_sld hs dL_law_1398 h249 ?_
  refine K_aload_n dL_law_1399 rfl rfl ?_
  refine K_iload dL_law_1400 rfl ?_
  refine K_iconst (v := 2) dL_law_1402 (by decide) ?_
  refine K_iadd dL_law_1403 ?_
  refine K_chk (fun h250 => ?_)
  refine K_sld hs dL_law_1404 h250 ?_
  refine K_bind (fun u251 hu251 => ?_)
  refine K_callVI (As := [.int (xs (x4 + 1).toNatClampNeg), .int (xs (x4 + 2).toNatClampNeg)]) (k_X12_localSlot fu hE ha2 hu251) dL_law_1405 v_L_168 ha2 rfl rfl rfl rfl (Nat.le_of_ble_eq_true rfl) ⟨Nat.le_of_ble_eq_true rfl, Nat.le_of_ble_eq_true rfl, by show k + 3 + 0 ≤ 601024; omega, by show n + 18 + 0 ≤ 7293034; omega⟩ ?_
  refine K_istore (ls' := [(0, _), (1, _), (2, _), (3, _), (4, _), (5, _), (6, _)]) dL_law_1408 (by decide) rfl ?_
  refine K_aload_n dL_law_1410 rfl rfl ?_
  refine K_bind (fun u252 hu252 => ?_)
  refine K_callVI (As := []) (k_X12_thrown fu hE ha2 hu252) dL_law_1411 v_L_95 ha2 rfl rfl rfl rfl (Nat.le_of_ble_eq_true rfl) ⟨Nat.le_of_ble_eq_true rfl, Nat.le_of_ble_eq_true rfl, by show k + 3 + 0 ≤ 601024; omega, by show n + 18 + 0 ≤ 7293034; omega⟩ ?_
  refine K_iload dL_law_1414 rfl ?_
  refine K_icmp_eq (tgt := 1421) dL_law_1416 (by decide) (fun c255 => ?_) (fun c255 => ?_)
  · refine K_iload dL_law_1421 rfl ?_
    refine K_if_ne (tgt := 1438) dL_law_1423 (by decide) (fun c254 => ?_) (fun c254 => ?_)
    · refine K_goto (tgt := 1518) dL_law_1438 (by decide) ?_
      refine K_iinc (v := (x4 + 5)) (ls' := [(0, _), (1, _), (2, _), (3, _), (4, _), (5, _), (6, _)]) dL_law_1518 rfl rfl (by decide) rfl ?_
      refine K_goto (tgt := 23) dL_law_1521 (by decide) ?_
      refine K.keep [0, 1, 2, 3, 4] ?_
      exact hrc (x4 + 5) u252.2 _ _ (by show k + 3 + F ≤ 601024; omega) (by show n + 18 + G ≤ 7293034; omega)
    · refine K_aload_n dL_law_1426 rfl rfl ?_
      refine K_iconst (v := 0) dL_law_1427 (by decide) ?_
      refine K_lald dL_law_1428 ha3 (by decide) ?_
      refine K_iload dL_law_1429 rfl ?_
      refine K_i2l dL_law_1431 ?_
      refine K_lcmp dL_law_1432 ?_
      refine K_if_eq (tgt := 1438) dL_law_1433 (by decide) (fun c253 => ?_) (fun c253 => ?_)
      · refine K_goto (tgt := 1518) dL_law_1438 (by decide) ?_
        refine K_iinc (v := (x4 + 5)) (ls' := [(0, _), (1, _), (2, _), (3, _), (4, _), (5, _), (6, _)]) dL_law_1518 rfl rfl (by decide) rfl ?_
        refine K_goto (tgt := 23) dL_law_1521 (by decide) ?_
        refine K.keep [0, 1, 2, 3, 4] ?_
        exact hrc (x4 + 5) u252.2 _ _ (by show k + 3 + F ≤ 601024; omega) (by show n + 18 + G ≤ 7293034; omega)
      · refine K_iconst (v := 0) dL_law_1436 (by decide) ?_
        exact K_lawret hQ ht dL_law_1437 (by show k + 3 ≤ 601024; omega) (by show n + 18 ≤ 7293034; omega)
  · refine K_iconst (v := 0) dL_law_1419 (by decide) ?_
    exact K_lawret hQ ht dL_law_1420 (by show k + 3 ≤ 601024; omega) (by show n + 18 ≤ 7293034; omega)
def jb_L_law_1441 (fu : Nat) (E : Ev) (xs : Nat → Int32) (L a1 a2 a3 : Nat) (rc : Int32 → St → Option (Int32 × St)) (x4 : Int32) (S : St) : Option (Int32 × St) :=
  if inb (x4 + 1) L = true then
    (
    (sp_L_isMarked fu E S a1 (xs (x4 + 1).toNatClampNeg) a3).bind fun u258 =>
    if inb (x4 + 1) L = true then
      (
      (sp_X12_isMarked fu E u258.2 a2 (xs (x4 + 1).toNatClampNeg)).bind fun u260 =>
      (sp_X12_thrown fu E u260.2 a2).bind fun u261 =>
      if u261.1 = u258.1 then (
        if u258.1 = 0 then (
          if u260.1 = 0 then (
            if (lg_cmp (u261.2.2.2.2 a3 (0 : Int32).toNatClampNeg) 0) = 0 then (
              rc (x4 + 5) u261.2
            ) else (
              some (0, u261.2)
            )
          ) else (
            if (lg_cmp (u261.2.2.2.2 a3 (0 : Int32).toNatClampNeg) 1) = 0 then (
              rc (x4 + 5) u261.2
            ) else (
              some (0, u261.2)
            )
          )
        ) else (
          rc (x4 + 5) u261.2
        )
      ) else (
        some (0, u261.2)
      )
      )
    else none
    )
  else none
set_option maxRecDepth 100000 in
theorem kj_L_law_1441 {X : Cx} {E : Ev} {t : Int32 × St} {b L a1 a2 a3 : Nat} {xs : Nat → Int32} {rc : Int32 → St → Option (Int32 × St)} (hQ : EndL mL_law X) (ht : t.1 = 1) (hE : WE E) (hs : Scr X b L xs) (ha1 : E.1 a1 = some (0, 9, 0)) (ha2 : E.1 a2 = some (0, 10, 0)) (ha3 : E.1 a3 = some (1, 2, 1)) (fu : Nat) (k n F G : Nat) (hk : k + 8 + F ≤ 601024) (hn : n + 48 + G ≤ 7293034) (hrc : ∀ (x4 : Int32) (S : St) (k1 n1 : Nat), k1 + F ≤ 601024 → n1 + G ≤ 7293034 → K mL_law X E 23 [(0, .ref b), (1, .ref a1), (2, .ref a2), (3, .ref a3), (4, .int x4)] [] S k1 n1 (rc x4 S) t) (x4 : Int32) (S : St) : K mL_law X E 1441 [(0, .ref b), (1, .ref a1), (2, .ref a2), (3, .ref a3), (4, .int x4)] [] S k n (jb_L_law_1441 fu E xs L a1 a2 a3 rc x4 S) t := by
  unfold jb_L_law_1441
  refine K_aload_n dL_law_1441 rfl rfl ?_
  refine K_aload_n dL_law_1442 rfl rfl ?_
  refine K_iload dL_law_1443 rfl ?_
  refine K_iconst (v := 1) dL_law_1445 (by decide) ?_
  refine K_iadd dL_law_1446 ?_
  refine K_chk (fun h257 => ?_)
  refine K_sld hs dL_law_1447 h257 ?_
  refine K_aload_n dL_law_1448 rfl rfl ?_
  refine K_bind (fun u258 hu258 => ?_)
  refine K_callSWI (As := [.ref a1, .int (xs (x4 + 1).toNatClampNeg), .ref a3]) (k_L_isMarked fu hE ha1 ha3 hu258) dL_law_1449 w_L_169 rfl rfl (Nat.le_of_ble_eq_true rfl) ⟨Nat.le_of_ble_eq_true rfl, Nat.le_of_ble_eq_true rfl, by show k + 0 + 2 ≤ 601024; omega, by show n + 0 + 12 ≤ 7293034; omega⟩ ?_
  refine K_istore (ls' := [(0, _), (1, _), (2, _), (3, _), (4, _), (5, _)]) dL_law_1452 (by decide) rfl ?_
  refine K_aload_n dL_law_1454 rfl rfl ?_
  refine K_aload_n dL_law_1455 rfl rfl ?_
  refine K_iload dL_law_1456 rfl ?_
  refine K_iconst (v := 1) dL_law_1458 (by decide) ?_
  refine K_iadd dL_law_1459 ?_
  refine K_chk (fun h259 => ?_)
  refine K_sld hs dL_law_1460 h259 ?_
  refine K_bind (fun u260 hu260 => ?_)
  refine K_callVI (As := [.int (xs (x4 + 1).toNatClampNeg)]) (k_X12_isMarked fu hE ha2 hu260) dL_law_1461 v_L_171 ha2 rfl rfl rfl rfl (Nat.le_of_ble_eq_true rfl) ⟨Nat.le_of_ble_eq_true rfl, Nat.le_of_ble_eq_true rfl, by show k + 2 + 0 ≤ 601024; omega, by show n + 12 + 0 ≤ 7293034; omega⟩ ?_
  refine K_istore (ls' := [(0, _), (1, _), (2, _), (3, _), (4, _), (5, _), (6, _)]) dL_law_1464 (by decide) rfl ?_
  refine K_aload_n dL_law_1466 rfl rfl ?_
  refine K_bind (fun u261 hu261 => ?_)
  refine K_callVI (As := []) (k_X12_thrown fu hE ha2 hu261) dL_law_1467 v_L_95 ha2 rfl rfl rfl rfl (Nat.le_of_ble_eq_true rfl) ⟨Nat.le_of_ble_eq_true rfl, Nat.le_of_ble_eq_true rfl, by show k + 2 + 0 ≤ 601024; omega, by show n + 12 + 0 ≤ 7293034; omega⟩ ?_
  refine K_iload dL_law_1470 rfl ?_
  refine K_icmp_eq (tgt := 1477) dL_law_1472 (by decide) (fun c266 => ?_) (fun c266 => ?_)
  · refine K_iload dL_law_1477 rfl ?_
    refine K_if_ne (tgt := 1501) dL_law_1479 (by decide) (fun c265 => ?_) (fun c265 => ?_)
    · refine K_goto (tgt := 1518) dL_law_1501 (by decide) ?_
      refine K_iinc (v := (x4 + 5)) (ls' := [(0, _), (1, _), (2, _), (3, _), (4, _), (5, _), (6, _)]) dL_law_1518 rfl rfl (by decide) rfl ?_
      refine K_goto (tgt := 23) dL_law_1521 (by decide) ?_
      refine K.keep [0, 1, 2, 3, 4] ?_
      exact hrc (x4 + 5) u261.2 _ _ (by show k + 2 + F ≤ 601024; omega) (by show n + 12 + G ≤ 7293034; omega)
    · refine K_aload_n dL_law_1482 rfl rfl ?_
      refine K_iconst (v := 0) dL_law_1483 (by decide) ?_
      refine K_lald dL_law_1484 ha3 (by decide) ?_
      refine K_iload dL_law_1485 rfl ?_
      refine K_if_eq (tgt := 1494) dL_law_1487 (by decide) (fun c264 => ?_) (fun c264 => ?_)
      · refine K_lconst (v := 0) dL_law_1494 rfl ?_
        refine K_lcmp dL_law_1495 ?_
        refine K_if_eq (tgt := 1501) dL_law_1496 (by decide) (fun c262 => ?_) (fun c262 => ?_)
        · refine K_goto (tgt := 1518) dL_law_1501 (by decide) ?_
          refine K_iinc (v := (x4 + 5)) (ls' := [(0, _), (1, _), (2, _), (3, _), (4, _), (5, _), (6, _)]) dL_law_1518 rfl rfl (by decide) rfl ?_
          refine K_goto (tgt := 23) dL_law_1521 (by decide) ?_
          refine K.keep [0, 1, 2, 3, 4] ?_
          exact hrc (x4 + 5) u261.2 _ _ (by show k + 2 + F ≤ 601024; omega) (by show n + 12 + G ≤ 7293034; omega)
        · refine K_iconst (v := 0) dL_law_1499 (by decide) ?_
          exact K_lawret hQ ht dL_law_1500 (by show k + 2 ≤ 601024; omega) (by show n + 12 ≤ 7293034; omega)
      · refine K_lconst (v := 1) dL_law_1490 rfl ?_
        refine K_goto (tgt := 1495) dL_law_1491 (by decide) ?_
        refine K_lcmp dL_law_1495 ?_
        refine K_if_eq (tgt := 1501) dL_law_1496 (by decide) (fun c263 => ?_) (fun c263 => ?_)
        · refine K_goto (tgt := 1518) dL_law_1501 (by decide) ?_
          refine K_iinc (v := (x4 + 5)) (ls' := [(0, _), (1, _), (2, _), (3, _), (4, _), (5, _), (6, _)]) dL_law_1518 rfl rfl (by decide) rfl ?_
          refine K_goto (tgt := 23) dL_law_1521 (by decide) ?_
          refine K.keep [0, 1, 2, 3, 4] ?_
          exact hrc (x4 + 5) u261.2 _ _ (by show k + 2 + F ≤ 601024; omega) (by show n + 12 + G ≤ 7293034; omega)
        · refine K_iconst (v := 0) dL_law_1499 (by decide) ?_
          exact K_lawret hQ ht dL_law_1500 (by show k + 2 ≤ 601024; omega) (by show n + 12 ≤ 7293034; omega)
  · refine K_iconst (v := 0) dL_law_1475 (by decide) ?_
    exact K_lawret hQ ht dL_law_1476 (by show k + 2 ≤ 601024; omega) (by show n + 12 ≤ 7293034; omega)
def jb_L_law_1504 (fu : Nat) (E : Ev) (xs : Nat → Int32) (L a1 a2 a3 : Nat) (rc : Int32 → St → Option (Int32 × St)) (x4 : Int32) (S : St) : Option (Int32 × St) :=
  (sp_X11_digest fu E S a1).bind fun u268 =>
  (sp_X12_digest fu E u268.2 a2).bind fun u269 =>
  if (lg_cmp u268.1 u269.1) = 0 then (
    rc (x4 + 5) u269.2
  ) else (
    some (0, u269.2)
  )
set_option maxRecDepth 100000 in
theorem kj_L_law_1504 {X : Cx} {E : Ev} {t : Int32 × St} {b L a1 a2 a3 : Nat} {xs : Nat → Int32} {rc : Int32 → St → Option (Int32 × St)} (hQ : EndL mL_law X) (ht : t.1 = 1) (hE : WE E) (hs : Scr X b L xs) (ha1 : E.1 a1 = some (0, 9, 0)) (ha2 : E.1 a2 = some (0, 10, 0)) (ha3 : E.1 a3 = some (1, 2, 1)) (fu : Nat) (k n F G : Nat) (hk : k + 8 + F ≤ 601024) (hn : n + 48 + G ≤ 7293034) (hrc : ∀ (x4 : Int32) (S : St) (k1 n1 : Nat), k1 + F ≤ 601024 → n1 + G ≤ 7293034 → K mL_law X E 23 [(0, .ref b), (1, .ref a1), (2, .ref a2), (3, .ref a3), (4, .int x4)] [] S k1 n1 (rc x4 S) t) (x4 : Int32) (S : St) : K mL_law X E 1504 [(0, .ref b), (1, .ref a1), (2, .ref a2), (3, .ref a3), (4, .int x4)] [] S k n (jb_L_law_1504 fu E xs L a1 a2 a3 rc x4 S) t := by
  unfold jb_L_law_1504
  refine K_aload_n dL_law_1504 rfl rfl ?_
  refine K_bind (fun u268 hu268 => ?_)
  refine K_callVL (As := []) (k_X11_digest fu hE ha1 hu268) dL_law_1505 v_L_172 ha1 rfl rfl rfl rfl (Nat.le_of_ble_eq_true rfl) ⟨Nat.le_of_ble_eq_true rfl, Nat.le_of_ble_eq_true rfl, by show k + 0 + 0 ≤ 601024; omega, by show n + 0 + 0 ≤ 7293034; omega⟩ ?_
  refine K_aload_n dL_law_1508 rfl rfl ?_
  refine K_bind (fun u269 hu269 => ?_)
  refine K_callVL (As := []) (k_X12_digest fu hE ha2 hu269) dL_law_1509 v_L_176 ha2 rfl rfl rfl rfl (Nat.le_of_ble_eq_true rfl) ⟨Nat.le_of_ble_eq_true rfl, Nat.le_of_ble_eq_true rfl, by show k + 0 + 0 ≤ 601024; omega, by show n + 0 + 0 ≤ 7293034; omega⟩ ?_
  refine K_lcmp dL_law_1512 ?_
  refine K_if_eq (tgt := 1518) dL_law_1513 (by decide) (fun c270 => ?_) (fun c270 => ?_)
  · refine K_iinc (v := (x4 + 5)) (ls' := [(0, _), (1, _), (2, _), (3, _), (4, _)]) dL_law_1518 rfl rfl (by decide) rfl ?_
    refine K_goto (tgt := 23) dL_law_1521 (by decide) ?_
    refine K.keep [0, 1, 2, 3, 4] ?_
    exact hrc (x4 + 5) u269.2 _ _ (by show k + 0 + F ≤ 601024; omega) (by show n + 0 + G ≤ 7293034; omega)
  · refine K_iconst (v := 0) dL_law_1516 (by decide) ?_
    exact K_lawret hQ ht dL_law_1517 (by show k + 0 ≤ 601024; omega) (by show n + 0 ≤ 7293034; omega)
def bd_L_law (fu : Nat) (E : Ev) (xs : Nat → Int32) (L a1 a2 a3 : Nat) (rc : Int32 → St → Option (Int32 × St)) (x4 : Int32) (S : St) : Option (Int32 × St) :=
  if ((Int32.ofNat L) - 5) < x4 then (
    some (1, S)
  ) else (
    if inb x4 L = true then
      (
      bnd ((xs x4.toNatClampNeg) &&& 31) fun v2 =>
      if v2 = 0 then (
        jb_L_law_148 fu E xs L a1 a2 a3 rc x4 S
      ) else (
        if v2 = 1 then (
          jb_L_law_232 fu E xs L a1 a2 a3 rc x4 S
        ) else (
          if v2 = 2 then (
            jb_L_law_300 fu E xs L a1 a2 a3 rc x4 S
          ) else (
            if v2 = 3 then (
              jb_L_law_356 fu E xs L a1 a2 a3 rc x4 S
            ) else (
              if v2 = 4 then (
                jb_L_law_436 fu E xs L a1 a2 a3 rc x4 S
              ) else (
                if v2 = 5 then (
                  jb_L_law_511 fu E xs L a1 a2 a3 rc x4 S
                ) else (
                  if v2 = 6 then (
                    jb_L_law_579 fu E xs L a1 a2 a3 rc x4 S
                  ) else (
                    if v2 = 7 then (
                      jb_L_law_659 fu E xs L a1 a2 a3 rc x4 S
                    ) else (
                      if v2 = 8 then (
                        jb_L_law_727 fu E xs L a1 a2 a3 rc x4 S
                      ) else (
                        if v2 = 9 then (
                          jb_L_law_819 fu E xs L a1 a2 a3 rc x4 S
                        ) else (
                          if v2 = 10 then (
                            jb_L_law_832 fu E xs L a1 a2 a3 rc x4 S
                          ) else (
                            if v2 = 11 then (
                              jb_L_law_888 fu E xs L a1 a2 a3 rc x4 S
                            ) else (
                              if v2 = 12 then (
                                jb_L_law_944 fu E xs L a1 a2 a3 rc x4 S
                              ) else (
                                if v2 = 13 then (
                                  jb_L_law_1028 fu E xs L a1 a2 a3 rc x4 S
                                ) else (
                                  if v2 = 14 then (
                                    jb_L_law_1072 fu E xs L a1 a2 a3 rc x4 S
                                  ) else (
                                    if v2 = 15 then (
                                      jb_L_law_1116 fu E xs L a1 a2 a3 rc x4 S
                                    ) else (
                                      if v2 = 16 then (
                                        jb_L_law_1160 fu E xs L a1 a2 a3 rc x4 S
                                      ) else (
                                        if v2 = 17 then (
                                          jb_L_law_1173 fu E xs L a1 a2 a3 rc x4 S
                                        ) else (
                                          if v2 = 18 then (
                                            jb_L_law_1186 fu E xs L a1 a2 a3 rc x4 S
                                          ) else (
                                            if v2 = 19 then (
                                              jb_L_law_1249 fu E xs L a1 a2 a3 rc x4 S
                                            ) else (
                                              if v2 = 20 then (
                                                jb_L_law_1305 fu E xs L a1 a2 a3 rc x4 S
                                              ) else (
                                                if v2 = 21 then (
                                                  jb_L_law_1373 fu E xs L a1 a2 a3 rc x4 S
                                                ) else (
                                                  if v2 = 22 then (
                                                    jb_L_law_1441 fu E xs L a1 a2 a3 rc x4 S
                                                  ) else (
                                                    if v2 = 23 then (
                                                      jb_L_law_1504 fu E xs L a1 a2 a3 rc x4 S
                                                    ) else (
                                                      rc (x4 + 5) S
                                                    )
                                                  )
                                                )
                                              )
                                            )
                                          )
                                        )
                                      )
                                    )
                                  )
                                )
                              )
                            )
                          )
                        )
                      )
                    )
                  )
                )
              )
            )
          )
        )
      )
      )
    else none
  )
set_option maxRecDepth 100000 in
theorem kj_L_law_23 {X : Cx} {E : Ev} {t : Int32 × St} {b L a1 a2 a3 : Nat} {xs : Nat → Int32} {rc : Int32 → St → Option (Int32 × St)} (hQ : EndL mL_law X) (ht : t.1 = 1) (hE : WE E) (hs : Scr X b L xs) (ha1 : E.1 a1 = some (0, 9, 0)) (ha2 : E.1 a2 = some (0, 10, 0)) (ha3 : E.1 a3 = some (1, 2, 1)) (fu : Nat) (k n F G : Nat) (hk : k + 8 + F ≤ 601024) (hn : n + 48 + G ≤ 7293034) (hrc : ∀ (x4 : Int32) (S : St) (k1 n1 : Nat), k1 + F ≤ 601024 → n1 + G ≤ 7293034 → K mL_law X E 23 [(0, .ref b), (1, .ref a1), (2, .ref a2), (3, .ref a3), (4, .int x4)] [] S k1 n1 (rc x4 S) t) (x4 : Int32) (S : St) : K mL_law X E 23 [(0, .ref b), (1, .ref a1), (2, .ref a2), (3, .ref a3), (4, .int x4)] [] S k n (bd_L_law fu E xs L a1 a2 a3 rc x4 S) t := by
  unfold bd_L_law
  refine K_iload dL_law_23 rfl ?_
  refine K_aload_n dL_law_25 rfl rfl ?_
  refine K_slen hs dL_law_26 ?_
  refine K_iconst (v := 5) dL_law_27 (by decide) ?_
  refine K_isub dL_law_28 ?_
  refine K_icmp_gt (tgt := 1524) dL_law_29 (by decide) (fun c271 => ?_) (fun c271 => ?_)
  · refine K_iconst (v := 1) dL_law_1524 (by decide) ?_
    exact K_lawret hQ ht dL_law_1525 (by show k + 0 ≤ 601024; omega) (by show n + 0 ≤ 7293034; omega)
  · refine K_aload_n dL_law_32 rfl rfl ?_
    refine K_iload dL_law_33 rfl ?_
    refine K_chk (fun h1 => ?_)
    refine K_sld hs dL_law_35 h1 ?_
    refine K_bipush (v := 31) dL_law_36 (by decide) ?_
    refine K_iand dL_law_38 ?_
    refine K_nmI (fun v2 => ?_)
    refine K_ite (fun c3 => ?_) (fun c3 => ?_)
    · refine K_tswIn (tgt := 148) 0 dL_law_39 c3 (by decide) (by decide) rfl (by decide) ?_
      refine K.keep [0, 1, 2, 3, 4] ?_
      exact kj_L_law_148 hQ ht hE hs ha1 ha2 ha3 fu k n F G hk hn hrc x4 S
    · refine K_ite (fun c35 => ?_) (fun c35 => ?_)
      · refine K_tswIn (tgt := 232) 1 dL_law_39 c35 (by decide) (by decide) rfl (by decide) ?_
        refine K.keep [0, 1, 2, 3, 4] ?_
        exact kj_L_law_232 hQ ht hE hs ha1 ha2 ha3 fu k n F G hk hn hrc x4 S
      · refine K_ite (fun c46 => ?_) (fun c46 => ?_)
        · refine K_tswIn (tgt := 300) 2 dL_law_39 c46 (by decide) (by decide) rfl (by decide) ?_
          refine K.keep [0, 1, 2, 3, 4] ?_
          exact kj_L_law_300 hQ ht hE hs ha1 ha2 ha3 fu k n F G hk hn hrc x4 S
        · refine K_ite (fun c55 => ?_) (fun c55 => ?_)
          · refine K_tswIn (tgt := 356) 3 dL_law_39 c55 (by decide) (by decide) rfl (by decide) ?_
            refine K.keep [0, 1, 2, 3, 4] ?_
            exact kj_L_law_356 hQ ht hE hs ha1 ha2 ha3 fu k n F G hk hn hrc x4 S
          · refine K_ite (fun c68 => ?_) (fun c68 => ?_)
            · refine K_tswIn (tgt := 436) 4 dL_law_39 c68 (by decide) (by decide) rfl (by decide) ?_
              refine K.keep [0, 1, 2, 3, 4] ?_
              exact kj_L_law_436 hQ ht hE hs ha1 ha2 ha3 fu k n F G hk hn hrc x4 S
            · refine K_ite (fun c81 => ?_) (fun c81 => ?_)
              · refine K_tswIn (tgt := 511) 5 dL_law_39 c81 (by decide) (by decide) rfl (by decide) ?_
                refine K.keep [0, 1, 2, 3, 4] ?_
                exact kj_L_law_511 hQ ht hE hs ha1 ha2 ha3 fu k n F G hk hn hrc x4 S
              · refine K_ite (fun c92 => ?_) (fun c92 => ?_)
                · refine K_tswIn (tgt := 579) 6 dL_law_39 c92 (by decide) (by decide) rfl (by decide) ?_
                  refine K.keep [0, 1, 2, 3, 4] ?_
                  exact kj_L_law_579 hQ ht hE hs ha1 ha2 ha3 fu k n F G hk hn hrc x4 S
                · refine K_ite (fun c105 => ?_) (fun c105 => ?_)
                  · refine K_tswIn (tgt := 659) 7 dL_law_39 c105 (by decide) (by decide) rfl (by decide) ?_
                    refine K.keep [0, 1, 2, 3, 4] ?_
                    exact kj_L_law_659 hQ ht hE hs ha1 ha2 ha3 fu k n F G hk hn hrc x4 S
                  · refine K_ite (fun c116 => ?_) (fun c116 => ?_)
                    · refine K_tswIn (tgt := 727) 8 dL_law_39 c116 (by decide) (by decide) rfl (by decide) ?_
                      refine K.keep [0, 1, 2, 3, 4] ?_
                      exact kj_L_law_727 hQ ht hE hs ha1 ha2 ha3 fu k n F G hk hn hrc x4 S
                    · refine K_ite (fun c131 => ?_) (fun c131 => ?_)
                      · refine K_tswIn (tgt := 819) 9 dL_law_39 c131 (by decide) (by decide) rfl (by decide) ?_
                        refine K.keep [0, 1, 2, 3, 4] ?_
                        exact kj_L_law_819 hQ ht hE hs ha1 ha2 ha3 fu k n F G hk hn hrc x4 S
                      · refine K_ite (fun c135 => ?_) (fun c135 => ?_)
                        · refine K_tswIn (tgt := 832) 10 dL_law_39 c135 (by decide) (by decide) rfl (by decide) ?_
                          refine K.keep [0, 1, 2, 3, 4] ?_
                          exact kj_L_law_832 hQ ht hE hs ha1 ha2 ha3 fu k n F G hk hn hrc x4 S
                        · refine K_ite (fun c144 => ?_) (fun c144 => ?_)
                          · refine K_tswIn (tgt := 888) 11 dL_law_39 c144 (by decide) (by decide) rfl (by decide) ?_
                            refine K.keep [0, 1, 2, 3, 4] ?_
                            exact kj_L_law_888 hQ ht hE hs ha1 ha2 ha3 fu k n F G hk hn hrc x4 S
                          · refine K_ite (fun c153 => ?_) (fun c153 => ?_)
                            · refine K_tswIn (tgt := 944) 12 dL_law_39 c153 (by decide) (by decide) rfl (by decide) ?_
                              refine K.keep [0, 1, 2, 3, 4] ?_
                              exact kj_L_law_944 hQ ht hE hs ha1 ha2 ha3 fu k n F G hk hn hrc x4 S
                            · refine K_ite (fun c185 => ?_) (fun c185 => ?_)
                              · refine K_tswIn (tgt := 1028) 13 dL_law_39 c185 (by decide) (by decide) rfl (by decide) ?_
                                refine K.keep [0, 1, 2, 3, 4] ?_
                                exact kj_L_law_1028 hQ ht hE hs ha1 ha2 ha3 fu k n F G hk hn hrc x4 S
                              · refine K_ite (fun c192 => ?_) (fun c192 => ?_)
                                · refine K_tswIn (tgt := 1072) 14 dL_law_39 c192 (by decide) (by decide) rfl (by decide) ?_
                                  refine K.keep [0, 1, 2, 3, 4] ?_
                                  exact kj_L_law_1072 hQ ht hE hs ha1 ha2 ha3 fu k n F G hk hn hrc x4 S
                                · refine K_ite (fun c199 => ?_) (fun c199 => ?_)
                                  · refine K_tswIn (tgt := 1116) 15 dL_law_39 c199 (by decide) (by decide) rfl (by decide) ?_
                                    refine K.keep [0, 1, 2, 3, 4] ?_
                                    exact kj_L_law_1116 hQ ht hE hs ha1 ha2 ha3 fu k n F G hk hn hrc x4 S
                                  · refine K_ite (fun c206 => ?_) (fun c206 => ?_)
                                    · refine K_tswIn (tgt := 1160) 16 dL_law_39 c206 (by decide) (by decide) rfl (by decide) ?_
                                      refine K.keep [0, 1, 2, 3, 4] ?_
                                      exact kj_L_law_1160 hQ ht hE hs ha1 ha2 ha3 fu k n F G hk hn hrc x4 S
                                    · refine K_ite (fun c210 => ?_) (fun c210 => ?_)
                                      · refine K_tswIn (tgt := 1173) 17 dL_law_39 c210 (by decide) (by decide) rfl (by decide) ?_
                                        refine K.keep [0, 1, 2, 3, 4] ?_
                                        exact kj_L_law_1173 hQ ht hE hs ha1 ha2 ha3 fu k n F G hk hn hrc x4 S
                                      · refine K_ite (fun c214 => ?_) (fun c214 => ?_)
                                        · refine K_tswIn (tgt := 1186) 18 dL_law_39 c214 (by decide) (by decide) rfl (by decide) ?_
                                          refine K.keep [0, 1, 2, 3, 4] ?_
                                          exact kj_L_law_1186 hQ ht hE hs ha1 ha2 ha3 fu k n F G hk hn hrc x4 S
                                        · refine K_ite (fun c225 => ?_) (fun c225 => ?_)
                                          · refine K_tswIn (tgt := 1249) 19 dL_law_39 c225 (by decide) (by decide) rfl (by decide) ?_
                                            refine K.keep [0, 1, 2, 3, 4] ?_
                                            exact kj_L_law_1249 hQ ht hE hs ha1 ha2 ha3 fu k n F G hk hn hrc x4 S
                                          · refine K_ite (fun c234 => ?_) (fun c234 => ?_)
                                            · refine K_tswIn (tgt := 1305) 20 dL_law_39 c234 (by decide) (by decide) rfl (by decide) ?_
                                              refine K.keep [0, 1, 2, 3, 4] ?_
                                              exact kj_L_law_1305 hQ ht hE hs ha1 ha2 ha3 fu k n F G hk hn hrc x4 S
                                            · refine K_ite (fun c245 => ?_) (fun c245 => ?_)
                                              · refine K_tswIn (tgt := 1373) 21 dL_law_39 c245 (by decide) (by decide) rfl (by decide) ?_
                                                refine K.keep [0, 1, 2, 3, 4] ?_
                                                exact kj_L_law_1373 hQ ht hE hs ha1 ha2 ha3 fu k n F G hk hn hrc x4 S
                                              · refine K_ite (fun c256 => ?_) (fun c256 => ?_)
                                                · refine K_tswIn (tgt := 1441) 22 dL_law_39 c256 (by decide) (by decide) rfl (by decide) ?_
                                                  refine K.keep [0, 1, 2, 3, 4] ?_
                                                  exact kj_L_law_1441 hQ ht hE hs ha1 ha2 ha3 fu k n F G hk hn hrc x4 S
                                                · refine K_ite (fun c267 => ?_) (fun c267 => ?_)
                                                  · refine K_tswIn (tgt := 1504) 23 dL_law_39 c267 (by decide) (by decide) rfl (by decide) ?_
                                                    refine K.keep [0, 1, 2, 3, 4] ?_
                                                    exact kj_L_law_1504 hQ ht hE hs ha1 ha2 ha3 fu k n F G hk hn hrc x4 S
                                                  · refine K_tswD (tgt := 1518) [0, 1, 2, 3, 4, 5, 6, 7, 8, 9, 10, 11, 12, 13, 14, 15, 16, 17, 18, 19, 20, 21, 22, 23] dL_law_39 (List.forall_mem_cons.mpr ⟨c3, List.forall_mem_cons.mpr ⟨c35, List.forall_mem_cons.mpr ⟨c46, List.forall_mem_cons.mpr ⟨c55, List.forall_mem_cons.mpr ⟨c68, List.forall_mem_cons.mpr ⟨c81, List.forall_mem_cons.mpr ⟨c92, List.forall_mem_cons.mpr ⟨c105, List.forall_mem_cons.mpr ⟨c116, List.forall_mem_cons.mpr ⟨c131, List.forall_mem_cons.mpr ⟨c135, List.forall_mem_cons.mpr ⟨c144, List.forall_mem_cons.mpr ⟨c153, List.forall_mem_cons.mpr ⟨c185, List.forall_mem_cons.mpr ⟨c192, List.forall_mem_cons.mpr ⟨c199, List.forall_mem_cons.mpr ⟨c206, List.forall_mem_cons.mpr ⟨c210, List.forall_mem_cons.mpr ⟨c214, List.forall_mem_cons.mpr ⟨c225, List.forall_mem_cons.mpr ⟨c234, List.forall_mem_cons.mpr ⟨c245, List.forall_mem_cons.mpr ⟨c256, List.forall_mem_cons.mpr ⟨c267, fun _ h => absurd h List.not_mem_nil⟩⟩⟩⟩⟩⟩⟩⟩⟩⟩⟩⟩⟩⟩⟩⟩⟩⟩⟩⟩⟩⟩⟩⟩) (by decide) (by decide) ?_
                                                    refine K_iinc (v := (x4 + 5)) (ls' := [(0, _), (1, _), (2, _), (3, _), (4, _)]) dL_law_1518 rfl rfl (by decide) rfl ?_
                                                    refine K_goto (tgt := 23) dL_law_1521 (by decide) ?_
                                                    refine K.keep [0, 1, 2, 3, 4] ?_
                                                    exact hrc (x4 + 5) S _ _ (by show k + 0 + F ≤ 601024; omega) (by show n + 0 + G ≤ 7293034; omega)
def lp_L_law (fu : Nat) (E : Ev) (xs : Nat → Int32) (L a1 a2 a3 : Nat) : Nat → Int32 → St → Option (Int32 × St)
  | 0, _, _ => none
  | f + 1, x4, S => bd_L_law fu E xs L a1 a2 a3 (lp_L_law fu E xs L a1 a2 a3 f) x4 S
theorem kl_L_law {X : Cx} {E : Ev} {t : Int32 × St} {b L a1 a2 a3 : Nat} {xs : Nat → Int32} (hQ : EndL mL_law X) (ht : t.1 = 1) (hE : WE E) (hs : Scr X b L xs) (ha1 : E.1 a1 = some (0, 9, 0)) (ha2 : E.1 a2 = some (0, 10, 0)) (ha3 : E.1 a3 = some (1, 2, 1)) (fu : Nat) : ∀ (f k n : Nat) (x4 : Int32) (S : St), k + 8 * f ≤ 601024 → n + 48 * f ≤ 7293034 → K mL_law X E 23 [(0, .ref b), (1, .ref a1), (2, .ref a2), (3, .ref a3), (4, .int x4)] [] S k n (lp_L_law fu E xs L a1 a2 a3 f x4 S) t := by
  intro f
  induction f with
  | zero => intro k n x4 S _ _; exact K_none
  | succ f ih =>
    intro k n x4 S hk hn
    show K _ _ _ _ _ _ _ _ _ (bd_L_law fu E xs L a1 a2 a3 (lp_L_law fu E xs L a1 a2 a3 f) x4 S) t
    exact kj_L_law_23 hQ ht hE hs ha1 ha2 ha3 fu k n (8 * f) (48 * f) (by omega) (by omega) (fun x4 S k1 n1 h1 h2 => ih k1 n1 x4 S h1 h2) x4 S
